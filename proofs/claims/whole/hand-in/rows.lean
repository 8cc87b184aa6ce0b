section
theorem pk_us {f : Nat → Int32} {k : Nat} {x : Int32} : upd f k x k = x := if_pos rfl
theorem pk_un {f : Nat → Int32} {k j : Nat} {x : Int32} (h : j ≠ k) : upd f k x j = f j := if_neg h
theorem pk_sub {a b : Nat} (h : b ≤ a) : nI a - nI b = nI (a - b) := by
  obtain ⟨c, rfl⟩ : ∃ c, a = c + b := ⟨a - b, by omega⟩
  rw [← nI_add, Int32.add_sub_cancel, Nat.add_sub_cancel]
theorem pk_m1 (n : Nat) : nI (n + 1) + (-1) = nI n := by
  rw [← nI_1, Int32.add_assoc, show (1 : Int32) + (-1) = 0 from rfl, Int32.add_zero]
theorem pk_mul (a b : Nat) : nI a * nI b = nI (a * b) := (Int32.ofNat_mul a b).symm
theorem pk_div {a d : Nat} (ha : a < 2 ^ 31) (h0 : 0 < d) (hd : d < 2 ^ 31) : nI a / nI d = nI (a / d) := by
  apply Int32.toInt_inj.mp
  rw [lg_idiv_nonneg (by rw [nI_toInt ha]; omega) (by rw [nI_toInt hd]; omega), nI_toInt ha, nI_toInt hd, nI_toInt (Nat.lt_of_le_of_lt (Nat.div_le_self a d) ha)]
  first | rfl | exact (Int.natCast_ediv _ _).symm
theorem pk_rem {a d : Nat} (ha : a < 2 ^ 31) (h0 : 0 < d) (hd : d < 2 ^ 31) : nI a - nI a / nI d * nI d = nI (a % d) := by
  rw [pk_div ha h0 hd, pk_mul, pk_sub (Nat.div_mul_le_self a d)]
  exact congrArg nI (by have := Nat.div_add_mod' a d; omega)
theorem pk_sub_toInt {a b : Nat} (ha : a < 2 ^ 30) (hb : b < 2 ^ 30) : (nI a - nI b).toInt = (a : Int) - b := by
  rw [Int32.toInt_sub, nI_toInt (by omega), nI_toInt (by omega)]
  exact Int.bmod_eq_of_le (by omega) (by omega)
theorem pk_sneg {a b : Nat} (hb : b < 2 ^ 30) (h : a < b) : nI a - nI b < 0 := by
  rw [Int32.lt_iff_toInt_lt, pk_sub_toInt (by omega) hb, show (0 : Int32).toInt = 0 from by decide]
  omega
theorem pk_ix (x : Int32) {n : Nat} (hn : n < 2 ^ 31) : x < 0 ∨ nI n ≤ x ∨ ∃ j : Nat, j < n ∧ x = nI j := by
  by_cases h : x < 0
  · exact Or.inl h
  · obtain ⟨j, hj, rfl⟩ := nI_of h
    by_cases h2 : j < n
    · exact Or.inr (Or.inr ⟨j, h2, rfl⟩)
    · exact Or.inr (Or.inl (nI_le (by omega) hj))
theorem pk_le {x y : Int32} {A B : Prop} (a b : Nat) (f : a ≤ b → A) (g : b < a → B) (hx : x = nI a := by rfl) (hy : y = nI b := by rfl) (ha : a < 2 ^ 31 := by omega) (hb : b < 2 ^ 31 := by omega) : (x ≤ y → A) ∧ (¬ x ≤ y → B) := by
  subst hx hy
  rw [nI_leI ha hb]
  exact ⟨f, fun z => g (by omega)⟩
theorem pk_lt {x y : Int32} {A B : Prop} (a b : Nat) (f : a < b → A) (g : b ≤ a → B) (hx : x = nI a := by rfl) (hy : y = nI b := by rfl) (ha : a < 2 ^ 31 := by omega) (hb : b < 2 ^ 31 := by omega) : (x < y → A) ∧ (¬ x < y → B) := by
  subst hx hy
  rw [nI_ltI ha hb]
  exact ⟨f, fun z => g (by omega)⟩
theorem pk_eq {x y : Int32} {A B : Prop} (a b : Nat) (f : a = b → A) (g : a ≠ b → B) (hx : x = nI a := by rfl) (hy : y = nI b := by rfl) (ha : a < 2 ^ 31 := by omega) (hb : b < 2 ^ 31 := by omega) : (x = y → A) ∧ (¬ x = y → B) := by
  subst hx hy
  rw [nI_eq ha hb]
  exact ⟨f, g⟩
theorem pk_in {x : Int32} (n N : Nat) (h : n < N) (hx : x = nI n := by rfl) (hN : N < 2 ^ 31 := by omega) : vp_in x N := by
  subst hx
  exact vp_in_nI h hN
theorem pk_cl {x : Int32} (n : Nat) (hx : x = nI n := by rfl) (h : n < 2 ^ 31 := by omega) : x.toNatClampNeg = n := by
  subst hx
  exact nI_clamp h
theorem pk_tn {n : Nat} (h : n < 2 ^ 32) : (nI n).toBitVec.toNat = n := Nat.mod_eq_of_lt h
theorem pk_and (x : Int32) {m : Int32} (k : Nat) (hm : m.toBitVec.toNat = 2 ^ k - 1) : x &&& m = nI (x.toBitVec.toNat % 2 ^ k) := by
  apply Int32.toBitVec_inj.mp
  apply BitVec.eq_of_toNat_eq
  rw [Int32.toBitVec_and, BitVec.toNat_and, hm, Nat.and_two_pow_sub_one_eq_mod]
  show _ = (BitVec.ofNat 32 _).toNat
  rw [BitVec.toNat_ofNat]
  exact (Nat.mod_eq_of_lt (Nat.lt_of_le_of_lt (Nat.mod_le _ _) x.toBitVec.isLt)).symm
theorem pk_andN {n : Nat} (h : n < 2 ^ 32) {m : Int32} (k : Nat) (hm : m.toBitVec.toNat = 2 ^ k - 1) : nI n &&& m = nI (n % 2 ^ k) := by
  rw [pk_and _ k hm, pk_tn h]
theorem pk_andE (x : Int32) {m : Int32} (k : Nat) (hm : m.toBitVec.toNat = 2 ^ k - 1) : ∃ j : Nat, j < 2 ^ k ∧ x &&& m = nI j := ⟨_, Nat.mod_lt _ (Nat.two_pow_pos k), pk_and x k hm⟩
theorem pk_andIn (x : Int32) {m : Int32} (k : Nat) (hm : m.toBitVec.toNat = 2 ^ k - 1) (hk : k ≤ 30) : vp_in (x &&& m) (2 ^ k) := by
  obtain ⟨j, hj, e⟩ := pk_andE x k hm
  rw [e]
  exact vp_in_nI hj (Nat.lt_of_le_of_lt (Nat.pow_le_pow_right (by decide) hk) (by decide))
theorem pk_nb (z : Int32) : narrow .byte (.int z.toInt8.toInt32) = .int z.toInt8.toInt32 := congrArg Value.int (by simp)
theorem pk_vb (z : Int32) : vp_nar .byte z.toInt8.toInt32 = z.toInt8.toInt32 := by rw [vp_nar_byte]; simp
theorem pk_lT {n : Nat} (h : n < 2 ^ 63) : (lN n).toInt = (n : Int) := lg_ofNat_toInt h
theorem pk_lLT {a b : Nat} (ha : a < 2 ^ 63) (hb : b < 2 ^ 63) : lN a < lN b ↔ a < b := by
  rw [Int64.lt_iff_toInt_lt, pk_lT ha, pk_lT hb]; omega
theorem pk_lLE {a b : Nat} (ha : a < 2 ^ 63) (hb : b < 2 ^ 63) : lN a ≤ lN b ↔ a ≤ b := by
  rw [Int64.le_iff_toInt_le, pk_lT ha, pk_lT hb]; omega
theorem pk_lEQ {a b : Nat} (ha : a < 2 ^ 63) (hb : b < 2 ^ 63) : lN a = lN b ↔ a = b := by
  rw [← Int64.toInt_inj, pk_lT ha, pk_lT hb]; omega
theorem pk_lOf {x : Int64} (h : ¬ x < 0) : ∃ k : Nat, k < 2 ^ 63 ∧ x = lN k := by
  rw [Int64.lt_iff_toInt_lt] at h
  have h0 : (0 : Int64).toInt = 0 := by decide
  have hx := Int64.toInt_lt x
  refine ⟨x.toInt.toNat, by omega, Int64.toInt_inj.mp ?_⟩
  rw [pk_lT (by omega)]
  omega
theorem pk_lDiv {a b : Nat} (ha : a < 2 ^ 63) (h0 : 0 < b) (hb : b < 2 ^ 63) : lN a / lN b = lN (a / b) := by
  apply Int64.toInt_inj.mp
  rw [lg_ldiv_nonneg (by rw [pk_lT ha]; omega) (by rw [pk_lT hb]; omega), pk_lT ha, pk_lT hb, pk_lT (Nat.lt_of_le_of_lt (Nat.div_le_self a b) ha)]
  rfl
theorem pk_lRem {a b : Nat} (ha : a < 2 ^ 63) (h0 : 0 < b) (hb : b < 2 ^ 63) : lN a - lN a / lN b * lN b = lN (a % b) := by
  rw [pk_lDiv ha h0 hb, lN_mul, lN_sub (Nat.div_mul_le_self a b)]
  exact congrArg lN (by have := Nat.div_add_mod' a b; omega)
theorem pk_loop {σ : Type} (W : Nat → Nat → σ → Prop) (I : Nat → σ → Prop) (e i0 : Nat) (s : σ) (hi : i0 ≤ e) (h0 : I i0 s) (hx : ∀ n s, I e s → W (n + 1) e s)
    (hs : ∀ n i s, i < e → I i s → (∀ s', I (i + 1) s' → W n (i + 1) s') → W (n + 1) i s) : ∃ n, W n i0 s :=
  ⟨e + 1, loop_i W I e hx hs (e + 1) i0 s hi (by omega) h0⟩
def bt (x : Int32) (i : Nat) : Bool := x.toBitVec.getLsbD i
theorem b_ext {x y : Int32} (h : ∀ i, i < 32 → bt x i = bt y i) : x = y := Int32.toBitVec_inj.mp (BitVec.eq_of_getLsbD_eq (fun i hi => h i hi))
theorem b_or (x y : Int32) (i : Nat) : bt (x ||| y) i = (bt x i || bt y i) := by unfold bt; rw [Int32.toBitVec_or, BitVec.getLsbD_or]
theorem b_and (x y : Int32) (i : Nat) : bt (x &&& y) i = (bt x i && bt y i) := by unfold bt; rw [Int32.toBitVec_and, BitVec.getLsbD_and]
theorem b_xor (x y : Int32) (i : Nat) : bt (x ^^^ y) i = (bt x i ^^ bt y i) := by unfold bt; rw [Int32.toBitVec_xor, BitVec.getLsbD_xor]
theorem b_big {x : Int32} {i : Nat} (h : 32 ≤ i) : bt x i = false := BitVec.getLsbD_of_ge _ _ h
theorem b_m1 : ∀ i, i < 32 → bt (-1) i = true := by decide +kernel
theorem b_0 (i : Nat) : bt 0 i = false := BitVec.getLsbD_zero
theorem s_l : ∀ n, n < 32 → ((nI n &&& 31).toBitVec.smod 32).toNat = n := by decide +kernel
theorem s_u : ∀ n, n < 32 → (((nI n).toUInt32 &&& Int32.toUInt32 31).toBitVec % 32).toNat = n := by decide +kernel
theorem b_shl (n : Nat) (hn : n < 32) (x : Int32) {i : Nat} (hi : i < 32) : bt (x <<< (nI n &&& 31)) i = (decide (n ≤ i) && bt x (i - n)) := by
  unfold bt
  rw [Int32.toBitVec_shiftLeft]
  show (x.toBitVec <<< ((nI n &&& 31).toBitVec.smod 32).toNat).getLsbD i = _
  rw [s_l n hn, BitVec.getLsbD_shiftLeft]
  rcases Nat.lt_or_ge i n with h | h
  · simp [h, Nat.not_le.mpr h]
  · simp [hi, h, Nat.not_lt.mpr h]
theorem b_ushr (n : Nat) (hn : n < 32) (x : Int32) (i : Nat) : bt ((x.toUInt32 >>> ((nI n).toUInt32 &&& Int32.toUInt32 31)).toInt32) i = bt x (n + i) := by
  show (x.toUInt32 >>> ((nI n).toUInt32 &&& Int32.toUInt32 31)).toBitVec.getLsbD i = x.toUInt32.toBitVec.getLsbD (n + i)
  rw [UInt32.toBitVec_shiftRight]
  show (x.toUInt32.toBitVec >>> (((nI n).toUInt32 &&& Int32.toUInt32 31).toBitVec % 32).toNat).getLsbD i = _
  rw [s_u n hn, BitVec.getLsbD_ushiftRight]
theorem b_sshr (n : Nat) (hn : n < 32) (x : Int32) {i : Nat} (hi : i < 32) : bt (x >>> (nI n &&& 31)) i = if n + i < 32 then bt x (n + i) else bt x 31 := by
  unfold bt
  rw [Int32.toBitVec_shiftRight]
  show (x.toBitVec.sshiftRight ((nI n &&& 31).toBitVec.smod 32).toNat).getLsbD i = _
  rw [s_l n hn, BitVec.getLsbD_sshiftRight, BitVec.msb_eq_getLsbD_last]
  simp [hi]
theorem ce_mR3 (t : Nat) : nI t * 3 = nI (3 * t) := by rw [show (3 : Int32) = nI 3 from rfl, pk_mul, Nat.mul_comm]
theorem ce_mL3 (t : Nat) : 3 * nI t = nI (3 * t) := by rw [show (3 : Int32) = nI 3 from rfl, pk_mul]
theorem ce_mR4 (t : Nat) : nI t * 4 = nI (4 * t) := by rw [show (4 : Int32) = nI 4 from rfl, pk_mul, Nat.mul_comm]
theorem ce_mL4 (t : Nat) : 4 * nI t = nI (4 * t) := by rw [show (4 : Int32) = nI 4 from rfl, pk_mul]
theorem ce_mR5 (t : Nat) : nI t * 5 = nI (5 * t) := by rw [show (5 : Int32) = nI 5 from rfl, pk_mul, Nat.mul_comm]
theorem ce_mL5 (t : Nat) : 5 * nI t = nI (5 * t) := by rw [show (5 : Int32) = nI 5 from rfl, pk_mul]
theorem ce_mR6 (t : Nat) : nI t * 6 = nI (6 * t) := by rw [show (6 : Int32) = nI 6 from rfl, pk_mul, Nat.mul_comm]
theorem ce_mL6 (t : Nat) : 6 * nI t = nI (6 * t) := by rw [show (6 : Int32) = nI 6 from rfl, pk_mul]
theorem ce_mR24 (t : Nat) : nI t * 24 = nI (24 * t) := by rw [show (24 : Int32) = nI 24 from rfl, pk_mul, Nat.mul_comm]
theorem ce_mL24 (t : Nat) : 24 * nI t = nI (24 * t) := by rw [show (24 : Int32) = nI 24 from rfl, pk_mul]
theorem ce_mR30 (t : Nat) : nI t * 30 = nI (30 * t) := by rw [show (30 : Int32) = nI 30 from rfl, pk_mul, Nat.mul_comm]
theorem ce_mL30 (t : Nat) : 30 * nI t = nI (30 * t) := by rw [show (30 : Int32) = nI 30 from rfl, pk_mul]
theorem ce_a1 (t : Nat) : nI t + 1 = nI (t + 1) := by rw [show (1 : Int32) = nI 1 from rfl, nI_add]
theorem ce_s1 (t : Nat) : nI (t + 1) - 1 = nI t := by rw [show (1 : Int32) = nI 1 from rfl, pk_sub (by omega)]; exact congrArg nI (by omega)
theorem ce_a2 (t : Nat) : nI t + 2 = nI (t + 2) := by rw [show (2 : Int32) = nI 2 from rfl, nI_add]
theorem ce_s2 (t : Nat) : nI (t + 2) - 2 = nI t := by rw [show (2 : Int32) = nI 2 from rfl, pk_sub (by omega)]; exact congrArg nI (by omega)
theorem ce_a3 (t : Nat) : nI t + 3 = nI (t + 3) := by rw [show (3 : Int32) = nI 3 from rfl, nI_add]
theorem ce_s3 (t : Nat) : nI (t + 3) - 3 = nI t := by rw [show (3 : Int32) = nI 3 from rfl, pk_sub (by omega)]; exact congrArg nI (by omega)
theorem ce_a4 (t : Nat) : nI t + 4 = nI (t + 4) := by rw [show (4 : Int32) = nI 4 from rfl, nI_add]
theorem ce_s4 (t : Nat) : nI (t + 4) - 4 = nI t := by rw [show (4 : Int32) = nI 4 from rfl, pk_sub (by omega)]; exact congrArg nI (by omega)
theorem ce_a7 (t : Nat) : nI t + 7 = nI (t + 7) := by rw [show (7 : Int32) = nI 7 from rfl, nI_add]
theorem ce_s7 (t : Nat) : nI (t + 7) - 7 = nI t := by rw [show (7 : Int32) = nI 7 from rfl, pk_sub (by omega)]; exact congrArg nI (by omega)
theorem ce_a30 (t : Nat) : nI t + 30 = nI (t + 30) := by rw [show (30 : Int32) = nI 30 from rfl, nI_add]
theorem ce_s30 (t : Nat) : nI (t + 30) - 30 = nI t := by rw [show (30 : Int32) = nI 30 from rfl, pk_sub (by omega)]; exact congrArg nI (by omega)
theorem ce_144 (t : Nat) : 144 + nI t = nI (144 + t) := by rw [show (144 : Int32) = nI 144 from rfl, nI_add]
theorem ce_cl {t : Nat} (h : t < 2000000000) : (nI t).toNatClampNeg = t := nI_clamp (by omega)
theorem ce_in {t n : Nat} (h : t < n) (hn : n < 1000 := by omega) : vp_in (nI t) n := vp_in_nI h (by omega)
end
section
/-! copying a run of cells -/
def ce_cp (f : Nat → Int32) (b n : Nat) (g : Nat → Int32) : Nat → Int32 := fun j => if b ≤ j ∧ j < b + n then g (j - b) else f j
theorem ce_cp0 (f : Nat → Int32) (b : Nat) (g : Nat → Int32) : ce_cp f b 0 g = f := by
  funext j; unfold ce_cp; rw [if_neg (by omega)]
theorem ce_cps (f : Nat → Int32) (b n : Nat) (g : Nat → Int32) : upd (ce_cp f b n g) (b + n) (g n) = ce_cp f b (n + 1) g := by
  funext j; unfold upd ce_cp
  by_cases h : j = b + n
  · subst h; rw [if_pos rfl, if_pos (by omega)]; exact congrArg g (by omega)
  · rw [if_neg h]
    by_cases h2 : b ≤ j ∧ j < b + n
    · rw [if_pos h2, if_pos (by omega)]
    · rw [if_neg h2, if_neg (by omega)]
theorem ce_cps0 (f : Nat → Int32) (n : Nat) (g : Nat → Int32) : upd (ce_cp f 0 n g) n (g n) = ce_cp f 0 (n + 1) g := by
  have h := ce_cps f 0 n g
  rw [Nat.zero_add] at h; exact h
theorem ce_cpi {f : Nat → Int32} {b n : Nat} {g : Nat → Int32} {j : Nat} (h1 : b ≤ j) (h2 : j < b + n) : ce_cp f b n g j = g (j - b) := if_pos ⟨h1, h2⟩
theorem ce_cpi' {f : Nat → Int32} {b n : Nat} {g : Nat → Int32} {j : Nat} (h2 : j < n) : ce_cp f b n g (b + j) = g j := by
  rw [ce_cpi (by omega) (by omega)]; exact congrArg g (by omega)
theorem ce_cpi0 {f : Nat → Int32} {n : Nat} {g : Nat → Int32} {j : Nat} (h2 : j < n) : ce_cp f 0 n g j = g j := by
  rw [ce_cpi (by omega) (by omega)]; exact congrArg g (by omega)
theorem ce_cpo {f : Nat → Int32} {b n : Nat} {g : Nat → Int32} {j : Nat} (h : j < b ∨ b + n ≤ j) : ce_cp f b n g j = f j := if_neg (by omega)
theorem ce_cpc {f : Nat → Int32} {b n : Nat} {g g' : Nat → Int32} (h : ∀ j, j < n → g j = g' j) : ce_cp f b n g = ce_cp f b n g' := by
  funext j; unfold ce_cp
  by_cases h2 : b ≤ j ∧ j < b + n
  · rw [if_pos h2, if_pos h2]; exact h _ (by omega)
  · rw [if_neg h2, if_neg h2]
/-! the pieces of the relation -/
def ce_BL (st : Nat → Int32) : Prop := ∀ a, a < 6 → ∃ m, m ≤ 1000000000 ∧ st (5 * a + 4) = nI m
def ce_WR (w : Int32) (f : Nat → Int32) : Prop := ∀ a c, a < 6 → c < 4 → f (4 * a + c) = if bt w (5 * a + c) = true then 1 else 0
def ce_PG (xop xnum yop ybs len : Nat → Int32) : Prop := ∀ a, a < 7 → ∃ L, L ≤ 24 ∧ len a = nI L ∧ ∀ i, i < L → (∃ k, k < 24 ∧ xop (24 * a + i) = nI k ∧ yop (24 * a + i) = nI k) ∧ xnum (24 * a + i) = ybs (24 * a + i)
def ce_MS (xms yms : Nat → Int32) (n : Nat) : Prop := ∀ i, i < n → (∃ a, a < 6 ∧ xms (4 * i) = nI a ∧ yms (4 * i) = nI a) ∧ xms (4 * i + 1) = yms (4 * i + 1) ∧ xms (4 * i + 2) = yms (4 * i + 2) ∧ (∃ s, s < 6 ∧ xms (4 * i + 3) = nI s ∧ yms (4 * i + 3) = nI s)
/-- an active frame: account, position, height, what it was called with -/
def ce_fa (len own ysf pos yat hgt ytp clr ycl amt yam arg yar : Nat → Int32) (i h : Nat) : Prop := ∃ a p L, a < 6 ∧ own i = nI a ∧ ysf i = nI a ∧ len a = nI L ∧ L ≤ 24 ∧ p < L ∧ pos i = nI p ∧ yat i = nI p ∧ hgt i = nI h ∧ ytp i = nI h ∧ clr i = ycl i ∧ amt i = yam i ∧ arg i = yar i
/-- what a frame needs to end: energy, and what is put back -/
def ce_fe (r0 : Int32) (st0 eg ygv el yel sev ecp sw mcp swm wcp srf rcp sst cps : Nat → Int32) (i e g w : Nat) : Prop := el i = nI e ∧ yel i = nI e ∧ eg i = nI g ∧ ygv i = nI g ∧ g ≤ 1000 ∧ (∃ s, s ≤ 20 ∧ sev i = nI s ∧ ecp i = nI s) ∧ sw i = nI w ∧ mcp i = nI w ∧ w ≤ 6 ∧ srf i = rcp i ∧ (∀ j, j < 30 → sst (30 * i + j) = cps (30 * i + j)) ∧ ce_BL (fun j => sst (30 * i + j)) ∧ ce_WR (swm i) (fun j => wcp (24 * i + j)) ∧ (i = 0 → srf i = r0 ∧ ∀ j, j < 30 → sst (30 * i + j) = st0 j)
def ce_fp (r0 : Int32) (st0 len own ysf pos yat hgt ytp clr ycl amt yam arg yar eg ygv el yel sev ecp sw mcp swm wcp srf rcp sst cps : Nat → Int32) (i h e g w : Nat) : Prop := ce_fa len own ysf pos yat hgt ytp clr ycl amt yam arg yar i h ∧ ce_fe r0 st0 eg ygv el yel sev ecp sw mcp swm wcp srf rcp sst cps i e g w
/-- the suspended frames below i: g was given to, w saved by the one above -/
def ce_FS (fp : Nat → Nat → Nat → Nat → Nat → Prop) : Nat → Nat → Nat → Nat → Prop
  | 0, _, _, q => q = 0
  | i + 1, g, w, q => ∃ h e g' w' q', fp i h e g' w' ∧ h ≤ 4 ∧ g ≤ e ∧ e ≤ g' ∧ w' ≤ w ∧ ce_FS fp i g' w' q' ∧ q = q' + (e - g)
theorem ce_FSc {fp fp' : Nat → Nat → Nat → Nat → Nat → Prop} : ∀ {i g w q : Nat}, (∀ j, j < i → ∀ h e g w, fp j h e g w → fp' j h e g w) → ce_FS fp i g w q → ce_FS fp' i g w q
  | 0, _, _, _, _, h => h
  | i + 1, _, _, _, H, ⟨h, e, g', w', q', a1, a2, a3, a4, a5, a6, a7⟩ => ⟨h, e, g', w', q', H i (by omega) _ _ _ _ a1, a2, a3, a4, a5, ce_FSc (fun j hj => H j (by omega)) a6, a7⟩
/-- what holds of everything but the frames, in a run: W messages wait -/
def ce_CO (ev wm : Int32) (xop xnum yop ybs len st ywm xms yms : Nat → Int32) (W : Nat) : Prop := (∃ E, E ≤ 20 ∧ ev = nI E) ∧ W ≤ 6 ∧ ce_PG xop xnum yop ybs len ∧ ce_BL st ∧ ce_WR wm ywm ∧ ce_MS xms yms W
/-! warm cells -/
theorem ce_bit (w : Int32) {n : Nat} (hn : n < 30) : (w >>> (nI n &&& 31)) &&& 1 = if bt w n = true then 1 else 0 := by
  apply b_ext
  intro i hi
  rw [b_and, b_sshr n (by omega) w hi]
  by_cases h0 : i = 0
  · subst h0
    rw [if_pos (by omega), Nat.add_zero]
    cases bt w n
    · decide
    · decide
  · have h1 : bt 1 i = false := by
      have : ∀ i, i < 32 → i ≠ 0 → bt 1 i = false := by decide +kernel
      exact this i hi h0
    rw [h1, Bool.and_false]
    by_cases hb : bt w n = true
    · rw [if_pos hb, h1]
    · rw [if_neg hb, b_0]
theorem ce_b_0 (i : Nat) : bt 0 i = false := BitVec.getLsbD_zero
theorem ce_sh1 : ∀ n, n < 30 → ∀ i, i < 30 → bt ((1 : Int32) <<< (nI n &&& 31)) i = decide (i = n) := by decide +kernel
theorem ce_set {w : Int32} {n : Nat} (hn : n < 30) {i : Nat} (hi : i < 30) : bt (w ||| ((1 : Int32) <<< (nI n &&& 31))) i = (bt w i || decide (i = n)) := by
  rw [b_or, ce_sh1 n hn i hi]
theorem ce_WRset {w : Int32} {f : Nat → Int32} (h : ce_WR w f) {a c : Nat} (ha : a < 6) (hc : c < 4) : ce_WR (w ||| ((1 : Int32) <<< (nI (5 * a + c) &&& 31))) (upd f (4 * a + c) 1) := by
  intro a' c' ha' hc'
  rw [ce_set (by omega) (by omega)]
  unfold upd
  by_cases e : 4 * a' + c' = 4 * a + c
  · rw [if_pos e, show decide (5 * a' + c' = 5 * a + c) = true from decide_eq_true (by omega), Bool.or_true]; rfl
  · rw [if_neg e, show decide (5 * a' + c' = 5 * a + c) = false from decide_eq_false (by omega), Bool.or_false]
    exact h a' c' ha' hc'
theorem ce_WR0 : ce_WR 0 (fun _ => 0) := by
  intro a c _ _
  rw [ce_b_0]; rfl
theorem ce_WRc {w : Int32} {f f' : Nat → Int32} (h : ce_WR w f) (e : ∀ j, j < 24 → f' j = f j) : ce_WR w f' := by
  intro a c ha hc
  rw [e _ (by omega)]; exact h a c ha hc
theorem ce_WRn {w : Int32} {f : Nat → Int32} (h : ce_WR w f) {j : Nat} (hj : j < 24) : vp_nar .boolean (f j) = f j := by
  have e := h (j / 4) (j % 4) (by omega) (by omega)
  rw [show 4 * (j / 4) + j % 4 = j by omega] at e
  rw [e]
  by_cases hb : bt w (5 * (j / 4) + j % 4) = true
  · rw [if_pos hb]; rfl
  · rw [if_neg hb]; rfl
/-! money -/
theorem ce_BLc {f f' : Nat → Int32} (h : ce_BL f) (e : ∀ j, j < 30 → f' j = f j) : ce_BL f' := by
  intro a ha
  rw [e _ (by omega)]; exact h a ha
theorem ce_BLcell {f : Nat → Int32} (h : ce_BL f) {a c : Nat} {x : Int32} (hc : c < 4) : ce_BL (upd f (5 * a + c) x) := by
  intro a' ha'
  rw [pk_un (by omega)]; exact h a' ha'
end
section
section
variable {xlim xps xvn xkc ev wa wm rf dp ea er lr lu lc ylim yend yans yrest ybeg yres yused ycalls yver ykept : Int32} {xop xnum len st vers evl xms own clr amt arg eg el pos hgt stk sst sev sw swm srf yop ybs cps old bef ywm wcp ecp mcp rcp yms ysf ycl yam yar ygv yel yat ytp : Nat → Int32}
theorem ce_uu (f : Nat → Int32) (k : Nat) (x y : Int32) : upd (upd f k x) k y = upd f k y := by
  funext j; unfold upd
  by_cases h : j = k
  · rw [if_pos h, if_pos h]
  · rw [if_neg h, if_neg h, if_neg h]
theorem ce_m1 {c : Nat} (h : c < 6) : (-1 : Int32) ≠ nI c := by
  intro e
  have := congrArg Int32.toInt e
  rw [nI_toInt (by omega), show (-1 : Int32).toInt = -1 from by decide] at this
  omega
theorem ce_neg1 {c : Nat} (h : c < 6) : ¬ nI c = (-1 : Int32) := fun e => ce_m1 h e.symm
/-- where the caller is from outside, or an account -/
def ce_CL (cl : Int32) : Prop := cl = -1 ∨ ∃ c, c < 6 ∧ cl = nI c
def ce_tk (st : Nat → Int32) (cl am : Int32) : Nat → Int32 := if cl = -1 then st else upd st (5 * cl.toNatClampNeg + 4) (st (5 * cl.toNatClampNeg + 4) - am)
def ce_mv (st : Nat → Int32) (cl : Int32) (a : Nat) (am : Int32) : Nat → Int32 := upd (ce_tk st cl am) (5 * a + 4) (ce_tk st cl am (5 * a + 4) + am)
/-- denied -/
def ce_DN (st : Nat → Int32) (d : Nat) (cl : Int32) (a : Nat) (am : Int32) : Prop := am < 0 ∨ d = 5 ∨ (∃ c, c < 6 ∧ cl = nI c ∧ st (5 * c + 4) < am) ∨ 1000000000 - st (5 * a + 4) < am
theorem xw_push {post : SX → Prop} {t h : Nat} {z : Int32} (ht : t < 5) (hh : hgt t = nI h) (h6 : h < 6) (hp : post (xlim, xps, xvn, xkc, ev, wa, wm, rf, nI (t + 1), ea, er, lr, lu, lc, xop, xnum, len, st, vers, evl, xms, own, clr, amt, arg, eg, el, pos, upd hgt t (nI (h + 1)), upd stk (6 * t + h) z, sst, sev, sw, swm, srf)) : wpX_push post (xlim, xps, xvn, xkc, ev, wa, wm, rf, nI (t + 1), ea, er, lr, lu, lc, xop, xnum, len, st, vers, evl, xms, own, clr, amt, arg, eg, el, pos, hgt, stk, sst, sev, sw, swm, srf) z := by
  unfold wpX_push
  refine nm_r (nI_pred t) ⟨ce_in ht, nm_r ((congrArg hgt (ce_cl (by omega))).trans hh) ?_⟩
  rw [ce_mR6, nI_add, ce_cl (t := 6 * t + h) (by omega), ce_cl (t := t) (by omega), nI_1 h]
  exact ⟨ce_in (by omega), nm_e ⟨ce_in ht, nm_e hp⟩⟩
theorem xw_accT {post : Int32 → Prop} {a : Nat} (ha : a < 6) (hp : post 1) : wpX_isAccount post (nI a) := by
  unfold wpX_isAccount
  exact br_f (nI_pos (by omega)) (br_f (nI_ge (b := 6) ha (by decide)) hp)
theorem xw_accF {post : Int32 → Prop} {x : Int32} (hx : x < 0 ∨ nI 6 ≤ x) (hp : post 0) : wpX_isAccount post x := by
  unfold wpX_isAccount
  by_cases h : x < 0
  · exact br_t h hp
  · exact br_f h (br_t (hx.resolve_left h) hp)
theorem xw_den {post : Int32 → Prop} {d a : Nat} {cl am : Int32} (hd : d ≤ 5) (hc : ce_CL cl) (ha : a < 6) (h1 : ce_DN st d cl a am → post 1) (h0 : ¬ ce_DN st d cl a am → post 0) : wpX_isDenied post (xlim, xps, xvn, xkc, ev, wa, wm, rf, nI d, ea, er, lr, lu, lc, xop, xnum, len, st, vers, evl, xms, own, clr, amt, arg, eg, el, pos, hgt, stk, sst, sev, sw, swm, srf) cl (nI a) am := by
  unfold wpX_isDenied
  refine br_c (fun h => h1 (Or.inl h)) (fun n1 => ?_)
  refine pk_lt d 5 (fun h5 => ?_) (fun h5 => h1 (Or.inr (Or.inl (by omega))))
  have fin : (¬ ∃ c, c < 6 ∧ cl = nI c ∧ st (5 * c + 4) < am) → wX_isDenied_35 post (nI a) am (xlim) (xps) (xvn) (xkc) (ev) (wa) (wm) (rf) (nI d) (ea) (er) (lr) (lu) (lc) (xop) (xnum) (len) (st) (vers) (evl) (xms) (own) (clr) (amt) (arg) (eg) (el) (pos) (hgt) (stk) (sst) (sev) (sw) (swm) (srf) := by
    intro n3
    unfold wX_isDenied_35
    rw [ce_mR5, ce_a4, ce_cl (by omega)]
    refine ⟨ce_in (by omega), br_c (fun h => h0 ?_) (fun h => h1 (Or.inr (Or.inr (Or.inr (Int32.not_le.mp h)))))⟩
    intro q
    rcases q with q | q | q | q
    · exact n1 q
    · omega
    · exact n3 q
    · exact Int32.not_le.mpr q h
  rcases hc with rfl | ⟨c, hc, rfl⟩
  · refine br_t rfl (fin ?_)
    intro ⟨c, hc, e, _⟩
    exact ce_m1 hc e
  · refine br_f (ce_neg1 hc) ?_
    rw [ce_mR5 c, ce_a4, ce_cl (by omega)]
    refine ⟨ce_in (by omega), br_c (fun h => fin ?_) (fun h => h1 (Or.inr (Or.inr (Or.inl ⟨c, hc, rfl, Int32.not_le.mp h⟩))))⟩
    intro ⟨c', hc', e, h'⟩
    have e2 := (nI_eq (by omega) (by omega)).mp e
    subst e2
    exact Int32.not_le.mpr h' h
theorem xw_o105 {post : SX → Prop} {t a : Nat} {cl am ar en : Int32} (ht : t < 5) (ha : a < 6) (hp : post (xlim, xps, xvn, xkc, ev, wa, wm, rf, nI (t + 1), ea, er, lr, lu, lc + 1, xop, xnum, len, upd st (5 * a + 4) (st (5 * a + 4) + am), vers, evl, xms, upd own t (nI a), upd clr t cl, upd amt t am, upd arg t ar, upd eg t en, upd el t en, upd pos t 0, upd hgt t 0, stk, sst, sev, sw, swm, srf)) : wX_open_105 post cl (nI a) am ar en (nI t) (xlim) (xps) (xvn) (xkc) (ev) (wa) (wm) (rf) (dp) (ea) (er) (lr) (lu) (lc) (xop) (xnum) (len) (st) (vers) (evl) (xms) (own) (clr) (amt) (arg) (eg) (el) (pos) (hgt) (stk) (sst) (sev) (sw) (swm) (srf) := by
  unfold wX_open_105
  rw [ce_mR5, ce_a4, ce_cl (t := 5 * a + 4) (by omega), ce_cl (t := t) (by omega), nI_1 t]
  exact ⟨ce_in (by omega), ce_in (by omega), nm_e ⟨ce_in ht, nm_e ⟨ce_in ht, nm_e ⟨ce_in ht, nm_e ⟨ce_in ht, nm_e ⟨ce_in ht, nm_e ⟨ce_in ht, nm_e ⟨ce_in ht, nm_e ⟨ce_in ht, nm_e (nm_e (nm_e hp))⟩⟩⟩⟩⟩⟩⟩⟩⟩
theorem xw_open {post : SX → Prop} {t a : Nat} {cl am ar en : Int32} (ht : t < 5) (hc : ce_CL cl) (ha : a < 6) (hp : post (xlim, xps, xvn, xkc, ev, wa, wm, rf, nI (t + 1), ea, er, lr, lu, lc + 1, xop, xnum, len, ce_mv st cl a am, vers, evl, xms, upd own t (nI a), upd clr t cl, upd amt t am, upd arg t ar, upd eg t en, upd el t en, upd pos t 0, upd hgt t 0, stk, ce_cp sst (30 * t) 30 st, upd sev t ev, upd sw t wa, upd swm t wm, upd srf t rf)) : wpX_open post (xlim, xps, xvn, xkc, ev, wa, wm, rf, nI t, ea, er, lr, lu, lc, xop, xnum, len, st, vers, evl, xms, own, clr, amt, arg, eg, el, pos, hgt, stk, sst, sev, sw, swm, srf) cl (nI a) am ar en := by
  unfold wpX_open
  refine loop_0 (fun n i s => wX_open_9 post cl (nI a) am ar en (nI t) (xlim) (xps) (xvn) (xkc) (ev) (wa) (wm) (rf) (nI t) (ea) (er) (lr) (lu) (lc) n (nI i) (xop) (xnum) (len) (st) (vers) (evl) (xms) (own) (clr) (amt) (arg) (eg) (el) (pos) (hgt) (stk) (s) (sev) (sw) (swm) (srf)) (fun i s => s = ce_cp sst (30 * t) i st) 30 sst (ce_cp0 _ _ _).symm ?_ ?_
  · intro n s e
    subst e
    refine br_t (by decide) ?_
    rw [ce_cl (t := t) (by omega)]
    refine ⟨ce_in ht, nm_e ⟨ce_in ht, nm_e ⟨ce_in ht, nm_e ⟨ce_in ht, nm_e ?_⟩⟩⟩⟩
    rcases hc with rfl | ⟨c, hc, rfl⟩
    · exact br_t rfl (xw_o105 ht ha hp)
    · refine br_f (ce_neg1 hc) ?_
      rw [ce_mR5 c, ce_a4, ce_cl (by omega)]
      refine ⟨ce_in (by omega), ce_in (by omega), nm_e (xw_o105 ht ha ?_)⟩
      have e1 : ce_tk st (nI c) am = upd st (5 * c + 4) (st (5 * c + 4) - am) := by
        unfold ce_tk
        rw [if_neg (ce_neg1 hc), ce_cl (by omega)]
      unfold ce_mv at hp
      rw [e1] at hp
      exact hp
  · intro n i s hi e H
    subst e
    refine br_f (nI_ge (b := 30) hi (by decide)) ?_
    rw [ce_mR30, nI_add, ce_cl (t := i) (by omega), ce_cl (t := 30 * t + i) (by omega), nI_1 i]
    exact ⟨ce_in (by omega), ce_in (by omega), nm_r (ce_cps _ _ _ _) (nm_e (H _ rfl))⟩
theorem xw_undo {post : SX → Prop} {t : Nat} (ht : t < 5) (hp : post (xlim, xps, xvn, xkc, sev t, sw t, swm t, srf t, dp, ea, er, lr, lu, lc, xop, xnum, len, ce_cp st 0 30 (fun j => sst (30 * t + j)), vers, evl, xms, own, clr, amt, arg, eg, el, pos, hgt, stk, sst, sev, sw, swm, srf)) : wpX_undo post (xlim, xps, xvn, xkc, ev, wa, wm, rf, dp, ea, er, lr, lu, lc, xop, xnum, len, st, vers, evl, xms, own, clr, amt, arg, eg, el, pos, hgt, stk, sst, sev, sw, swm, srf) (nI t) := by
  unfold wpX_undo
  refine loop_0 (fun n i s => wX_undo_2 post (nI t) (xlim) (xps) (xvn) (xkc) (ev) (wa) (wm) (rf) (dp) (ea) (er) (lr) (lu) (lc) n (nI i) (xop) (xnum) (len) (s) (vers) (evl) (xms) (own) (clr) (amt) (arg) (eg) (el) (pos) (hgt) (stk) (sst) (sev) (sw) (swm) (srf)) (fun i s => s = ce_cp st 0 i (fun j => sst (30 * t + j))) 30 st (ce_cp0 _ _ _).symm ?_ ?_
  · intro n s e
    subst e
    refine br_t (by decide) ?_
    rw [ce_cl (t := t) (by omega)]
    exact ⟨ce_in ht, nm_e ⟨ce_in ht, nm_e ⟨ce_in ht, nm_e ⟨ce_in ht, nm_e hp⟩⟩⟩⟩
  · intro n i s hi e H
    subst e
    refine br_f (nI_ge (b := 30) hi (by decide)) ?_
    rw [ce_mR30, nI_add, ce_cl (t := i) (by omega), ce_cl (t := 30 * t + i) (by omega), nI_1 i]
    exact ⟨ce_in (by omega), ce_in (by omega), nm_r (ce_cps0 st i (fun j => sst (30 * t + j))) (nm_e (H _ rfl))⟩
/-! the end of a call -/
theorem xe_0 {post : SX → Prop} {how res : Int32} (hp : post (xlim, xps, xvn, xkc, ev, wa, wm, rf, 0, how, res, lr, lu, lc, xop, xnum, len, st, vers, evl, xms, own, clr, amt, arg, eg, el, pos, hgt, stk, sst, sev, sw, swm, srf)) : wX_endCall_33 post how res 0 (xlim) (xps) (xvn) (xkc) (ev) (wa) (wm) (rf) (dp) (ea) (er) (lr) (lu) (lc) (xop) (xnum) (len) (st) (vers) (evl) (xms) (own) (clr) (amt) (arg) (eg) (el) (pos) (hgt) (stk) (sst) (sev) (sw) (swm) (srf) := by
  unfold wX_endCall_33
  exact br_t (by decide) hp
theorem xe_1 {post : SX → Prop} {t h : Nat} {how res : Int32} (ht : t + 1 < 5) (hh : hgt t = nI h) (h4 : h ≤ 4) (hp : post (xlim, xps, xvn, xkc, ev, wa, wm, rf, nI (t + 1), how, res, lr, lu, lc, xop, xnum, len, st, vers, evl, xms, own, clr, amt, arg, eg, upd el t (el t - (eg (t + 1) - el (t + 1))), pos, upd hgt t (nI (h + 2)), upd (upd stk (6 * t + h) res) (6 * t + (h + 1)) (if how = 0 then 1 else 0), sst, sev, sw, swm, srf)) : wX_endCall_33 post how res (nI (t + 1)) (xlim) (xps) (xvn) (xkc) (ev) (wa) (wm) (rf) (dp) (ea) (er) (lr) (lu) (lc) (xop) (xnum) (len) (st) (vers) (evl) (xms) (own) (clr) (amt) (arg) (eg) (el) (pos) (hgt) (stk) (sst) (sev) (sw) (swm) (srf) := by
  unfold wX_endCall_33
  refine br_f (nI_nle (by omega) (by omega)) ?_
  rw [nI_pred, ce_cl (t := t) (by omega), ce_cl (t := t + 1) (by omega)]
  refine ⟨ce_in (by omega), ce_in ht, ce_in ht, ce_in (by omega), nm_e ?_⟩
  refine xw_push (by omega) hh (by omega) ?_
  by_cases e : how = 0
  · rw [if_pos e] at hp
    refine br_t e ?_
    unfold wX_endCall_91
    refine xw_push (h := h + 1) (by omega) pk_us (by omega) ?_
    rw [ce_uu]
    exact hp
  · rw [if_neg e] at hp
    refine br_f e ?_
    unfold wX_endCall_91
    refine xw_push (h := h + 1) (by omega) pk_us (by omega) ?_
    rw [ce_uu]
    exact hp
theorem xe_ok {post : SX → Prop} {t : Nat} {res : Int32} (hp : wX_endCall_33 post 0 res (nI t) (xlim) (xps) (xvn) (xkc) (ev) (wa) (wm) (rf) (nI (t + 1)) (ea) (er) (lr) (lu) (lc) (xop) (xnum) (len) (st) (vers) (evl) (xms) (own) (clr) (amt) (arg) (eg) (el) (pos) (hgt) (stk) (sst) (sev) (sw) (swm) (srf)) : wpX_endCall post (xlim, xps, xvn, xkc, ev, wa, wm, rf, nI (t + 1), ea, er, lr, lu, lc, xop, xnum, len, st, vers, evl, xms, own, clr, amt, arg, eg, el, pos, hgt, stk, sst, sev, sw, swm, srf) 0 res := by
  unfold wpX_endCall
  refine nm_r (nI_pred t) (br_f (by decide) (br_f (by decide) ?_))
  unfold wX_endCall_24
  exact br_t rfl hp
theorem xe_rev {post : SX → Prop} {t : Nat} {res : Int32} (ht : t < 5) (hp : wX_endCall_33 post 1 res (nI t) (xlim) (xps) (xvn) (xkc) (sev t) (sw t) (swm t) (srf t) (nI (t + 1)) (ea) (er) (lr) (lu) (lc) (xop) (xnum) (len) (ce_cp st 0 30 (fun j => sst (30 * t + j))) (vers) (evl) (xms) (own) (clr) (amt) (arg) (eg) (el) (pos) (hgt) (stk) (sst) (sev) (sw) (swm) (srf)) : wpX_endCall post (xlim, xps, xvn, xkc, ev, wa, wm, rf, nI (t + 1), ea, er, lr, lu, lc, xop, xnum, len, st, vers, evl, xms, own, clr, amt, arg, eg, el, pos, hgt, stk, sst, sev, sw, swm, srf) 1 res := by
  unfold wpX_endCall
  refine nm_r (nI_pred t) (br_f (by decide) (br_f (by decide) ?_))
  unfold wX_endCall_24
  exact br_f (by decide) (xw_undo ht hp)
theorem xe_bad {post : SX → Prop} {t : Nat} {how res : Int32} (ht : t < 5) (h23 : how = 2 ∨ how = 3) (hp : wX_endCall_33 post how res (nI t) (xlim) (xps) (xvn) (xkc) (sev t) (sw t) (swm t) (srf t) (nI (t + 1)) (ea) (er) (lr) (lu) (lc) (xop) (xnum) (len) (ce_cp st 0 30 (fun j => sst (30 * t + j))) (vers) (evl) (xms) (own) (clr) (amt) (arg) (eg) (upd el t 0) (pos) (hgt) (stk) (sst) (sev) (sw) (swm) (srf)) : wpX_endCall post (xlim, xps, xvn, xkc, ev, wa, wm, rf, nI (t + 1), ea, er, lr, lu, lc, xop, xnum, len, st, vers, evl, xms, own, clr, amt, arg, eg, el, pos, hgt, stk, sst, sev, sw, swm, srf) how res := by
  have hn : ¬ how = 0 := by rcases h23 with rfl | rfl <;> decide
  have go : wX_endCall_17 post how res (nI t) (xlim) (xps) (xvn) (xkc) (ev) (wa) (wm) (rf) (nI (t + 1)) (ea) (er) (lr) (lu) (lc) (xop) (xnum) (len) (st) (vers) (evl) (xms) (own) (clr) (amt) (arg) (eg) (el) (pos) (hgt) (stk) (sst) (sev) (sw) (swm) (srf) := by
    unfold wX_endCall_17
    rw [ce_cl (t := t) (by omega)]
    refine ⟨ce_in ht, nm_e ?_⟩
    unfold wX_endCall_24
    exact br_f hn (xw_undo ht hp)
  unfold wpX_endCall
  refine nm_r (nI_pred t) ?_
  rcases h23 with rfl | rfl
  · exact br_t rfl go
  · exact br_f (by decide) (br_t rfl go)
end
end
section
section
variable {xlim xps xvn xkc ev wa wm rf dp ea er lr lu lc ylim yend yans yrest ybeg yres yused ycalls yver ykept : Int32} {xop xnum len st vers evl xms own clr amt arg eg el pos hgt stk sst sev sw swm srf yop ybs cps old bef ywm wcp ecp mcp rcp yms ysf ycl yam yar ygv yel yat ytp : Nat → Int32}
theorem yw_push {post : SY → Prop} {t h : Nat} {z : Int32} (ht : t < 5) (hh : ytp t = nI h) (h6 : h < 6) (hp : post (ylim, ev, wa, rf, nI (t + 1), yend, yans, yrest, ybeg, yres, yused, ycalls, yver, ykept, yop, ybs, len, st, cps, old, bef, ywm, wcp, ecp, mcp, rcp, evl, yms, ysf, ycl, yam, yar, ygv, yel, yat, upd ytp t (nI (h + 1)), upd stk (6 * t + h) z)) : wpY_push post (ylim, ev, wa, rf, nI (t + 1), yend, yans, yrest, ybeg, yres, yused, ycalls, yver, ykept, yop, ybs, len, st, cps, old, bef, ywm, wcp, ecp, mcp, rcp, evl, yms, ysf, ycl, yam, yar, ygv, yel, yat, ytp, stk) z := by
  unfold wpY_push
  dsimp only
  rw [nI_pred t, ce_cl (t := t) (by omega), hh, ce_mL6, nI_add, ce_cl (t := 6 * t + h) (by omega), nI_1 h]
  exact ⟨ce_in ht, ce_in ht, nm_e ⟨ce_in (by omega), nm_e hp⟩⟩
theorem yw_pop {post : Int32 → SY → Prop} {t h : Nat} (ht : t < 5) (hh : ytp t = nI (h + 1)) (h6 : h < 6) (hp : post (stk (6 * t + h)) (ylim, ev, wa, rf, nI (t + 1), yend, yans, yrest, ybeg, yres, yused, ycalls, yver, ykept, yop, ybs, len, st, cps, old, bef, ywm, wcp, ecp, mcp, rcp, evl, yms, ysf, ycl, yam, yar, ygv, yel, yat, upd ytp t (nI h), stk)) : wpY_pop post (ylim, ev, wa, rf, nI (t + 1), yend, yans, yrest, ybeg, yres, yused, ycalls, yver, ykept, yop, ybs, len, st, cps, old, bef, ywm, wcp, ecp, mcp, rcp, evl, yms, ysf, ycl, yam, yar, ygv, yel, yat, ytp, stk) := by
  unfold wpY_pop
  dsimp only
  rw [nI_pred t, ce_cl (t := t) (by omega), hh, nI_pred h, ce_mL6, nI_add, ce_cl (t := 6 * t + h) (by omega)]
  exact ⟨ce_in ht, ce_in ht, nm_e ⟨ce_in (by omega), hp⟩⟩
theorem yw_accT {post : Int32 → Prop} {a : Nat} (ha : a < 6) (hp : post 1) : wpY_isAccount post (nI a) := by
  unfold wpY_isAccount
  exact br_f (nI_pos (by omega)) (br_f (nI_ge (b := 6) ha (by decide)) hp)
theorem yw_accF {post : Int32 → Prop} {x : Int32} (hx : x < 0 ∨ nI 6 ≤ x) (hp : post 0) : wpY_isAccount post x := by
  unfold wpY_isAccount
  by_cases h : x < 0
  · exact br_t h hp
  · exact br_f h (br_t (hx.resolve_left h) hp)
theorem yw_give {post : SY → Prop} {t h : Nat} {x : Int32} (ht : t < 5) (hh : ytp t = nI h) (h4 : h ≤ 4) (hp : post (ylim, ev, wa, rf, nI (t + 1), yend, yans, yrest, ybeg, yres, yused, ycalls, yver, ykept, yop, ybs, len, st, cps, old, bef, ywm, wcp, ecp, mcp, rcp, evl, yms, ysf, ycl, yam, yar, ygv, upd yel t (yel t - x), yat, upd ytp t (nI (h + 2)), upd (upd stk (6 * t + h) yans) (6 * t + (h + 1)) (if yend = 0 then 1 else 0))) : wpY_giveBack post (ylim, ev, wa, rf, nI (t + 1), yend, yans, yrest, ybeg, yres, yused, ycalls, yver, ykept, yop, ybs, len, st, cps, old, bef, ywm, wcp, ecp, mcp, rcp, evl, yms, ysf, ycl, yam, yar, ygv, yel, yat, ytp, stk) x := by
  unfold wpY_giveBack
  dsimp only
  rw [nI_pred t, ce_cl (t := t) (by omega)]
  refine ⟨ce_in ht, ce_in ht, nm_e (yw_push ht hh (by omega) ?_)⟩
  by_cases e : yend = 0
  · rw [if_pos e] at hp
    refine br_t e ?_
    unfold wY_giveBack_36
    refine yw_push (h := h + 1) ht pk_us (by omega) ?_
    rw [ce_uu]
    exact hp
  · rw [if_neg e] at hp
    refine br_f e ?_
    unfold wY_giveBack_36
    refine yw_push (h := h + 1) ht pk_us (by omega) ?_
    rw [ce_uu]
    exact hp
theorem ye_0 {post : SY → Prop} (hp : post (ylim, ev, wa, rf, 0, yend, yans, yrest, ybeg, yres, yused, ycalls, yver, ykept, yop, ybs, len, st, cps, old, bef, ywm, wcp, ecp, mcp, rcp, evl, yms, ysf, ycl, yam, yar, ygv, yel, yat, ytp, stk)) : wY_end_158 post (ylim) (ev) (wa) (rf) (0) (yend) (yans) (yrest) (ybeg) (yres) (yused) (ycalls) (yver) (ykept) (yop) (ybs) (len) (st) (cps) (old) (bef) (ywm) (wcp) (ecp) (mcp) (rcp) (evl) (yms) (ysf) (ycl) (yam) (yar) (ygv) (yel) (yat) (ytp) (stk) := by
  unfold wY_end_158
  exact br_t (by decide) hp
theorem ye_1 {post : SY → Prop} {t h : Nat} (ht : t + 1 < 5) (hh : ytp t = nI h) (h4 : h ≤ 4) (hp : post (ylim, ev, wa, rf, nI (t + 1), yend, yans, yrest, ybeg, yres, yused, ycalls, yver, ykept, yop, ybs, len, st, cps, old, bef, ywm, wcp, ecp, mcp, rcp, evl, yms, ysf, ycl, yam, yar, ygv, upd yel t (yel t - (ygv (t + 1) - yrest)), yat, upd ytp t (nI (h + 2)), upd (upd stk (6 * t + h) yans) (6 * t + (h + 1)) (if yend = 0 then 1 else 0))) : wY_end_158 post (ylim) (ev) (wa) (rf) (nI (t + 1)) (yend) (yans) (yrest) (ybeg) (yres) (yused) (ycalls) (yver) (ykept) (yop) (ybs) (len) (st) (cps) (old) (bef) (ywm) (wcp) (ecp) (mcp) (rcp) (evl) (yms) (ysf) (ycl) (yam) (yar) (ygv) (yel) (yat) (ytp) (stk) := by
  unfold wY_end_158
  refine br_f (nI_nle (by omega) (by omega)) ?_
  rw [ce_cl (t := t + 1) (by omega)]
  exact ⟨ce_in ht, yw_give (by omega) hh h4 hp⟩
theorem ye_rs {post : SY → Prop} {t : Nat} (ht : t < 5) (hw : ∀ j, j < 24 → vp_nar .boolean (wcp (24 * t + j)) = wcp (24 * t + j)) (hp : wY_end_158 post (ylim) (ecp t) (mcp t) (rcp t) (nI t) (yend) (yans) (yrest) (ybeg) (yres) (yused) (ycalls) (yver) (ykept) (yop) (ybs) (len) (ce_cp st 0 30 (fun j => cps (30 * t + j))) (cps) (old) (bef) (ce_cp ywm 0 24 (fun j => wcp (24 * t + j))) (wcp) (ecp) (mcp) (rcp) (evl) (yms) (ysf) (ycl) (yam) (yar) (ygv) (yel) (yat) (ytp) (stk)) : ∃ n, wY_end_53 post (ylim) (ev) (wa) (rf) (nI t) (yend) (yans) (yrest) (ybeg) (yres) (yused) (ycalls) (yver) (ykept) n 0 (yop) (ybs) (len) (st) (cps) (old) (bef) (ywm) (wcp) (ecp) (mcp) (rcp) (evl) (yms) (ysf) (ycl) (yam) (yar) (ygv) (yel) (yat) (ytp) (stk) := by
  refine loop_0 (fun n i s => wY_end_53 post (ylim) (ev) (wa) (rf) (nI t) (yend) (yans) (yrest) (ybeg) (yres) (yused) (ycalls) (yver) (ykept) n (nI i) (yop) (ybs) (len) (s) (cps) (old) (bef) (ywm) (wcp) (ecp) (mcp) (rcp) (evl) (yms) (ysf) (ycl) (yam) (yar) (ygv) (yel) (yat) (ytp) (stk)) (fun i s => s = ce_cp st 0 i (fun j => cps (30 * t + j))) 30 st (ce_cp0 _ _ _).symm ?_ ?_
  · intro n s e
    subst e
    refine br_t (by decide) ?_
    refine loop_0 (fun n i s => wY_end_87 post (ylim) (ev) (wa) (rf) (nI t) (yend) (yans) (yrest) (ybeg) (yres) (yused) (ycalls) (yver) (ykept) n (nI i) (yop) (ybs) (len) (ce_cp st 0 30 (fun j => cps (30 * t + j))) (cps) (old) (bef) (s) (wcp) (ecp) (mcp) (rcp) (evl) (yms) (ysf) (ycl) (yam) (yar) (ygv) (yel) (yat) (ytp) (stk)) (fun i s => s = ce_cp ywm 0 i (fun j => wcp (24 * t + j))) 24 ywm (ce_cp0 _ _ _).symm ?_ ?_
    · intro n s e
      subst e
      refine br_t (by decide) ?_
      rw [ce_cl (t := t) (by omega)]
      exact ⟨ce_in ht, nm_e ⟨ce_in ht, nm_e ⟨ce_in ht, nm_e hp⟩⟩⟩
    · intro n i s hi e H
      subst e
      refine br_f (nI_ge (b := 24) hi (by decide)) ?_
      rw [ce_mL24, nI_add, ce_cl (t := i) (by omega), ce_cl (t := 24 * t + i) (by omega), nI_1 i, hw i hi]
      exact ⟨ce_in (by omega), ce_in (by omega), nm_r (ce_cps0 ywm i (fun j => wcp (24 * t + j))) (nm_e (H _ rfl))⟩
  · intro n i s hi e H
    subst e
    refine br_f (nI_ge (b := 30) hi (by decide)) ?_
    rw [ce_mL30, nI_add, ce_cl (t := i) (by omega), ce_cl (t := 30 * t + i) (by omega), nI_1 i]
    exact ⟨ce_in (by omega), ce_in (by omega), nm_r (ce_cps0 st i (fun j => cps (30 * t + j))) (nm_e (H _ rfl))⟩
theorem ye_ok {post : SY → Prop} {t : Nat} {v : Int32} (ht : t < 5) (hp : wY_end_158 post (ylim) (ev) (wa) (rf) (nI t) (0) (v) (yel t) (ybeg) (yres) (yused) (ycalls) (yver) (ykept) (yop) (ybs) (len) (st) (cps) (old) (bef) (ywm) (wcp) (ecp) (mcp) (rcp) (evl) (yms) (ysf) (ycl) (yam) (yar) (ygv) (yel) (yat) (ytp) (stk)) : wpY_end post (ylim, ev, wa, rf, nI (t + 1), yend, yans, yrest, ybeg, yres, yused, ycalls, yver, ykept, yop, ybs, len, st, cps, old, bef, ywm, wcp, ecp, mcp, rcp, evl, yms, ysf, ycl, yam, yar, ygv, yel, yat, ytp, stk) 0 v := by
  unfold wpY_end
  refine nm_r (nI_pred t) (br_f (by decide) (br_f (by decide) ?_))
  rw [ce_cl (t := t) (by omega)]
  refine ⟨ce_in ht, ?_⟩
  unfold wY_end_44
  exact br_t rfl hp
theorem ye_rev {post : SY → Prop} {t : Nat} {v : Int32} (ht : t < 5) (hw : ∀ j, j < 24 → vp_nar .boolean (wcp (24 * t + j)) = wcp (24 * t + j)) (hp : wY_end_158 post (ylim) (ecp t) (mcp t) (rcp t) (nI t) (1) (v) (yel t) (ybeg) (yres) (yused) (ycalls) (yver) (ykept) (yop) (ybs) (len) (ce_cp st 0 30 (fun j => cps (30 * t + j))) (cps) (old) (bef) (ce_cp ywm 0 24 (fun j => wcp (24 * t + j))) (wcp) (ecp) (mcp) (rcp) (evl) (yms) (ysf) (ycl) (yam) (yar) (ygv) (yel) (yat) (ytp) (stk)) : wpY_end post (ylim, ev, wa, rf, nI (t + 1), yend, yans, yrest, ybeg, yres, yused, ycalls, yver, ykept, yop, ybs, len, st, cps, old, bef, ywm, wcp, ecp, mcp, rcp, evl, yms, ysf, ycl, yam, yar, ygv, yel, yat, ytp, stk) 1 v := by
  unfold wpY_end
  refine nm_r (nI_pred t) (br_f (by decide) (br_f (by decide) ?_))
  rw [ce_cl (t := t) (by omega)]
  refine ⟨ce_in ht, ?_⟩
  unfold wY_end_44
  exact br_f (by decide) (ye_rs ht hw hp)
theorem ye_bad {post : SY → Prop} {t : Nat} {how v : Int32} (ht : t < 5) (h23 : how = 2 ∨ how = 3) (hw : ∀ j, j < 24 → vp_nar .boolean (wcp (24 * t + j)) = wcp (24 * t + j)) (hp : wY_end_158 post (ylim) (ecp t) (mcp t) (rcp t) (nI t) (how) (v) (0) (ybeg) (yres) (yused) (ycalls) (yver) (ykept) (yop) (ybs) (len) (ce_cp st 0 30 (fun j => cps (30 * t + j))) (cps) (old) (bef) (ce_cp ywm 0 24 (fun j => wcp (24 * t + j))) (wcp) (ecp) (mcp) (rcp) (evl) (yms) (ysf) (ycl) (yam) (yar) (ygv) (yel) (yat) (ytp) (stk)) : wpY_end post (ylim, ev, wa, rf, nI (t + 1), yend, yans, yrest, ybeg, yres, yused, ycalls, yver, ykept, yop, ybs, len, st, cps, old, bef, ywm, wcp, ecp, mcp, rcp, evl, yms, ysf, ycl, yam, yar, ygv, yel, yat, ytp, stk) how v := by
  have hn : ¬ how = 0 := by rcases h23 with rfl | rfl <;> decide
  have go : wY_end_31 post how (ylim) (ev) (wa) (rf) (nI t) (how) (v) (yrest) (ybeg) (yres) (yused) (ycalls) (yver) (ykept) (yop) (ybs) (len) (st) (cps) (old) (bef) (ywm) (wcp) (ecp) (mcp) (rcp) (evl) (yms) (ysf) (ycl) (yam) (yar) (ygv) (yel) (yat) (ytp) (stk) := by
    unfold wY_end_31 wY_end_44
    exact br_f hn (ye_rs ht hw hp)
  unfold wpY_end
  refine nm_r (nI_pred t) ?_
  rcases h23 with rfl | rfl
  · exact br_t rfl go
  · exact br_f (by decide) (br_t rfl go)
theorem yw_save {post : SY → Prop} {t : Nat} (ht : t < 5) (hw : ∀ j, j < 24 → vp_nar .boolean (ywm j) = ywm j) (hp : post (ylim, ev, wa, rf, nI t, yend, yans, yrest, ybeg, yres, yused, ycalls, yver, ykept, yop, ybs, len, st, ce_cp cps (30 * t) 30 st, old, bef, ywm, ce_cp wcp (24 * t) 24 ywm, upd ecp t ev, upd mcp t wa, upd rcp t rf, evl, yms, ysf, ycl, yam, yar, ygv, yel, yat, ytp, stk)) : wpY_save post (ylim, ev, wa, rf, nI t, yend, yans, yrest, ybeg, yres, yused, ycalls, yver, ykept, yop, ybs, len, st, cps, old, bef, ywm, wcp, ecp, mcp, rcp, evl, yms, ysf, ycl, yam, yar, ygv, yel, yat, ytp, stk) := by
  unfold wpY_save
  refine loop_0 (fun n i s => wY_save_2 post (ylim) (ev) (wa) (rf) (nI t) (yend) (yans) (yrest) (ybeg) (yres) (yused) (ycalls) (yver) (ykept) n (nI i) (yop) (ybs) (len) (st) (s) (old) (bef) (ywm) (wcp) (ecp) (mcp) (rcp) (evl) (yms) (ysf) (ycl) (yam) (yar) (ygv) (yel) (yat) (ytp) (stk)) (fun i s => s = ce_cp cps (30 * t) i st) 30 cps (ce_cp0 _ _ _).symm ?_ ?_
  · intro n s e
    subst e
    refine br_t (by decide) ?_
    refine loop_0 (fun n i s => wY_save_36 post (ylim) (ev) (wa) (rf) (nI t) (yend) (yans) (yrest) (ybeg) (yres) (yused) (ycalls) (yver) (ykept) n (nI i) (yop) (ybs) (len) (st) (ce_cp cps (30 * t) 30 st) (old) (bef) (ywm) (s) (ecp) (mcp) (rcp) (evl) (yms) (ysf) (ycl) (yam) (yar) (ygv) (yel) (yat) (ytp) (stk)) (fun i s => s = ce_cp wcp (24 * t) i ywm) 24 wcp (ce_cp0 _ _ _).symm ?_ ?_
    · intro n s e
      subst e
      refine br_t (by decide) ?_
      rw [ce_cl (t := t) (by omega)]
      exact ⟨ce_in ht, nm_e ⟨ce_in ht, nm_e ⟨ce_in ht, nm_e hp⟩⟩⟩
    · intro n i s hi e H
      subst e
      refine br_f (nI_ge (b := 24) hi (by decide)) ?_
      rw [ce_mL24, nI_add, ce_cl (t := i) (by omega), ce_cl (t := 24 * t + i) (by omega), nI_1 i, hw i hi]
      exact ⟨ce_in (by omega), ce_in (by omega), nm_r (ce_cps _ _ _ _) (nm_e (H _ rfl))⟩
  · intro n i s hi e H
    subst e
    refine br_f (nI_ge (b := 30) hi (by decide)) ?_
    rw [ce_mL30, nI_add, ce_cl (t := i) (by omega), ce_cl (t := 30 * t + i) (by omega), nI_1 i]
    exact ⟨ce_in (by omega), ce_in (by omega), nm_r (ce_cps _ _ _ _) (nm_e (H _ rfl))⟩
/-! begin -/
theorem ce_sum {m x : Nat} (hm : m ≤ 1000000000) (hx : x < 2147483648) : (1000000000 : Int64) < (nI m).toInt64 + (nI x).toInt64 ↔ (1000000000 : Int32) - nI m < nI x := by
  rw [nI_l (by omega), nI_l (by omega), lN_add, show (1000000000 : Int64) = lN 1000000000 from rfl, pk_lLT (by omega) (by omega), show (1000000000 : Int32) = nI 1000000000 from rfl, pk_sub hm, nI_ltI (by omega) (by omega)]
  omega
theorem ce_neg {c : Nat} (h : c < 6) : ¬ nI c < 0 := nI_pos (by omega)
theorem yb_den {post : Int32 → SY → Prop} {d a : Nat} {cl am ar en : Int32} (hd : d ≤ 5) (hc : ce_CL cl) (ha : a < 6) (hB : ce_BL st) (hD : ce_DN st d cl a am) (hp : post 0 (ylim, ev, wa, rf, nI d, 4, 0, en, ybeg, yres, yused, ycalls, yver, ykept, yop, ybs, len, st, cps, old, bef, ywm, wcp, ecp, mcp, rcp, evl, yms, ysf, ycl, yam, yar, ygv, yel, yat, ytp, stk)) : wpY_begin post (ylim, ev, wa, rf, nI d, yend, yans, yrest, ybeg, yres, yused, ycalls, yver, ykept, yop, ybs, len, st, cps, old, bef, ywm, wcp, ecp, mcp, rcp, evl, yms, ysf, ycl, yam, yar, ygv, yel, yat, ytp, stk) (nI a) am ar cl en := by
  unfold wpY_begin
  refine br_c (fun _ => hp) (fun n1 => ?_)
  obtain ⟨x, hx, rfl⟩ := nI_of n1
  obtain ⟨m, hm, em⟩ := hB a ha
  have fin : (¬ ∃ c, c < 6 ∧ cl = nI c ∧ st (5 * c + 4) < nI x) → wY_begin_40 post (nI a) (nI x) ar cl en (ylim) (ev) (wa) (rf) (nI d) (4) (0) (en) (ybeg) (yres) (yused) (ycalls) (yver) (ykept) (yop) (ybs) (len) (st) (cps) (old) (bef) (ywm) (wcp) (ecp) (mcp) (rcp) (evl) (yms) (ysf) (ycl) (yam) (yar) (ygv) (yel) (yat) (ytp) (stk) := by
    intro n3
    unfold wY_begin_40
    rw [ce_mL5, ce_a4, ce_cl (t := 5 * a + 4) (by omega), em]
    refine ⟨ce_in (by omega), br_c (fun _ => hp) (fun n4 => ?_)⟩
    rw [ce_sum hm (by omega), ← em] at n4
    refine br_t ?_ hp
    rcases hD with q | q | q | q
    · exact absurd q n1
    · rw [q]; rfl
    · exact absurd q n3
    · exact absurd q n4
  rcases hc with rfl | ⟨c, hc, rfl⟩
  · refine br_t (by decide) (fin ?_)
    intro ⟨c, hc, e, _⟩
    exact ce_m1 hc e
  · refine br_f (ce_neg hc) ?_
    rw [ce_mL5 c, ce_a4, ce_cl (t := 5 * c + 4) (by omega)]
    refine ⟨ce_in (by omega), br_c (fun _ => hp) (fun n4 => fin ?_)⟩
    intro ⟨c', hc', e, h'⟩
    have e2 := (nI_eq (by omega) (by omega)).mp e
    subst e2
    exact n4 h'
theorem yb_119 {post : Int32 → SY → Prop} {t a L : Nat} {cl am ar en : Int32} (ht : t < 5) (ha : a < 6) (hL : len a = nI L) (hl : L ≤ 24)
    (h0 : L = 0 → post 0 (ylim, ev, wa, rf, nI t, yend, yans, yrest, ybeg, yres, yused, ycalls, yver, ykept, yop, ybs, len, upd st (5 * a + 4) (st (5 * a + 4) + am), cps, old, bef, ywm, wcp, ecp, mcp, rcp, evl, yms, ysf, ycl, yam, yar, ygv, yel, yat, ytp, stk))
    (h1 : 0 < L → post 1 (ylim, ev, wa, rf, nI (t + 1), yend, yans, yrest, ybeg, yres, yused, ycalls, yver, ykept, yop, ybs, len, upd st (5 * a + 4) (st (5 * a + 4) + am), cps, old, bef, ywm, wcp, ecp, mcp, rcp, evl, yms, upd ysf t (nI a), upd ycl t cl, upd yam t am, upd yar t ar, upd ygv t en, upd yel t en, upd yat t 0, upd ytp t 0, stk)) : wY_begin_119 post (nI a) am ar cl en (ylim) (ev) (wa) (rf) (nI t) (yend) (yans) (yrest) (ybeg) (yres) (yused) (ycalls) (yver) (ykept) (yop) (ybs) (len) (st) (cps) (old) (bef) (ywm) (wcp) (ecp) (mcp) (rcp) (evl) (yms) (ysf) (ycl) (yam) (yar) (ygv) (yel) (yat) (ytp) (stk) := by
  unfold wY_begin_119
  rw [ce_mL5, ce_a4, ce_cl (t := 5 * a + 4) (by omega), ce_cl (t := t) (by omega), ce_cl (t := a) (by omega), nI_1 t, hL]
  refine ⟨ce_in (by omega), ce_in (by omega), nm_e ⟨ce_in (by omega), pk_eq L 0 h0 (fun n => ?_)⟩⟩
  exact ⟨ce_in ht, nm_e ⟨ce_in ht, nm_e ⟨ce_in ht, nm_e ⟨ce_in ht, nm_e ⟨ce_in ht, nm_e ⟨ce_in ht, nm_e ⟨ce_in ht, nm_e ⟨ce_in ht, nm_e (nm_e (h1 (by omega)))⟩⟩⟩⟩⟩⟩⟩⟩
theorem yb_99 {post : Int32 → SY → Prop} {t a L : Nat} {cl am ar en : Int32} (ht : t < 5) (hc : ce_CL cl) (ha : a < 6) (hL : len a = nI L) (hl : L ≤ 24)
    (h0 : L = 0 → post 0 (ylim, ev, wa, rf, nI t, yend, yans, yrest, ybeg, yres, yused, ycalls, yver, ykept, yop, ybs, len, ce_mv st cl a am, cps, old, bef, ywm, wcp, ecp, mcp, rcp, evl, yms, ysf, ycl, yam, yar, ygv, yel, yat, ytp, stk))
    (h1 : 0 < L → post 1 (ylim, ev, wa, rf, nI (t + 1), yend, yans, yrest, ybeg, yres, yused, ycalls, yver, ykept, yop, ybs, len, ce_mv st cl a am, cps, old, bef, ywm, wcp, ecp, mcp, rcp, evl, yms, upd ysf t (nI a), upd ycl t cl, upd yam t am, upd yar t ar, upd ygv t en, upd yel t en, upd yat t 0, upd ytp t 0, stk)) : wY_begin_99 post (nI a) am ar cl en (ylim) (ev) (wa) (rf) (nI t) (yend) (yans) (yrest) (ybeg) (yres) (yused) (ycalls) (yver) (ykept) (yop) (ybs) (len) (st) (cps) (old) (bef) (ywm) (wcp) (ecp) (mcp) (rcp) (evl) (yms) (ysf) (ycl) (yam) (yar) (ygv) (yel) (yat) (ytp) (stk) := by
  unfold wY_begin_99
  rcases hc with rfl | ⟨c, hc, rfl⟩
  · exact br_t (by decide) (yb_119 ht ha hL hl h0 h1)
  · refine br_f (ce_neg hc) ?_
    rw [ce_mL5 c, ce_a4, ce_cl (t := 5 * c + 4) (by omega)]
    have e1 : ce_tk st (nI c) am = upd st (5 * c + 4) (st (5 * c + 4) - am) := by
      unfold ce_tk
      rw [if_neg (ce_neg1 hc), ce_cl (by omega)]
    unfold ce_mv at h0 h1
    rw [e1] at h0 h1
    exact ⟨ce_in (by omega), ce_in (by omega), nm_e (yb_119 ht ha hL hl h0 h1)⟩
theorem yb_ok {post : Int32 → SY → Prop} {t a L : Nat} {cl am ar en : Int32} (hd : t ≤ 5) (hc : ce_CL cl) (ha : a < 6) (hB : ce_BL st) (hD : ¬ ce_DN st t cl a am) (hL : len a = nI L) (hl : L ≤ 24) (hw : ∀ j, j < 24 → vp_nar .boolean (ywm j) = ywm j)
    (h0 : L = 0 → post 0 (ylim, ev, wa, rf, nI t, 0, 0, en, ybeg + 1, yres, yused, ycalls, yver, ykept, yop, ybs, len, ce_mv st cl a am, cps, old, bef, ywm, wcp, ecp, mcp, rcp, evl, yms, ysf, ycl, yam, yar, ygv, yel, yat, ytp, stk))
    (h1 : 0 < L → post 1 (ylim, ev, wa, rf, nI (t + 1), 0, 0, en, ybeg + 1, yres, yused, ycalls, yver, ykept, yop, ybs, len, ce_mv st cl a am, ce_cp cps (30 * t) 30 st, old, bef, ywm, ce_cp wcp (24 * t) 24 ywm, upd ecp t ev, upd mcp t wa, upd rcp t rf, evl, yms, upd ysf t (nI a), upd ycl t cl, upd yam t am, upd yar t ar, upd ygv t en, upd yel t en, upd yat t 0, upd ytp t 0, stk)) : wpY_begin post (ylim, ev, wa, rf, nI t, yend, yans, yrest, ybeg, yres, yused, ycalls, yver, ykept, yop, ybs, len, st, cps, old, bef, ywm, wcp, ecp, mcp, rcp, evl, yms, ysf, ycl, yam, yar, ygv, yel, yat, ytp, stk) (nI a) am ar cl en := by
  have n1 : ¬ am < 0 := fun q => hD (Or.inl q)
  have ht : t < 5 := Nat.lt_of_le_of_ne hd (fun q => hD (Or.inr (Or.inl q)))
  have n3 : ¬ ∃ c, c < 6 ∧ cl = nI c ∧ st (5 * c + 4) < am := fun q => hD (Or.inr (Or.inr (Or.inl q)))
  have n4 : ¬ 1000000000 - st (5 * a + 4) < am := fun q => hD (Or.inr (Or.inr (Or.inr q)))
  have fin : wY_begin_40 post (nI a) am ar cl en (ylim) (ev) (wa) (rf) (nI t) (4) (0) (en) (ybeg) (yres) (yused) (ycalls) (yver) (ykept) (yop) (ybs) (len) (st) (cps) (old) (bef) (ywm) (wcp) (ecp) (mcp) (rcp) (evl) (yms) (ysf) (ycl) (yam) (yar) (ygv) (yel) (yat) (ytp) (stk) := by
    obtain ⟨x, hx, rfl⟩ := nI_of n1
    obtain ⟨m, hm, em⟩ := hB a ha
    have n5 : ¬ (1000000000 : Int64) < (nI m).toInt64 + (nI x).toInt64 := by rw [ce_sum hm (by omega), ← em]; exact n4
    unfold wY_begin_40
    rw [ce_mL5, ce_a4, ce_cl (t := 5 * a + 4) (by omega), em, ce_cl (t := a) (by omega), hL]
    refine ⟨ce_in (by omega), br_f n5 (pk_eq t 5 (fun q => absurd q (by omega)) (fun _ => nm_e ⟨ce_in (by omega), pk_le L 0 (fun q => ?_) (fun q => ?_)⟩))⟩
    · exact yb_99 ht hc ha hL hl h0 (fun q2 => absurd q2 (by omega))
    · exact yw_save ht hw (yb_99 ht hc ha hL hl (fun q2 => absurd q2 (by omega)) h1)
  unfold wpY_begin
  refine br_f n1 ?_
  rcases hc with rfl | ⟨c, hc, rfl⟩
  · exact br_t (by decide) fin
  · refine br_f (ce_neg hc) ?_
    rw [ce_mL5 c, ce_a4, ce_cl (t := 5 * c + 4) (by omega)]
    exact ⟨ce_in (by omega), br_f (fun q => n3 ⟨c, hc, rfl, q⟩) fin⟩
end
end
section
section
variable {xlim xps xvn xkc ev wa wm rf dp ea er lr lu lc ylim yend yans yrest ybeg yres yused ycalls yver ykept : Int32} {xop xnum len st vers evl xms own clr amt arg eg el pos hgt stk sst sev sw swm srf yop ybs cps old bef ywm wcp ecp mcp rcp yms ysf ycl yam yar ygv yel yat ytp : Nat → Int32}
def ce_cost (k : Nat) (b : Bool) : Nat := if k = 5 then 3 else if k = 6 then (if b = true then 2 else 5) else if k = 7 then (if b = true then 3 else 8) else if k = 18 then 8 else if k = 21 then 4 else if k = 23 then 5 else 1
def ce_tkn (k : Nat) : Nat := if 8 ≤ k ∧ k ≤ 12 ∨ k = 15 then 2 else if k = 18 ∨ k = 23 then 3 else if k = 5 ∨ k = 7 ∨ k = 13 ∨ k = 14 ∨ k = 17 ∨ k = 19 ∨ k = 20 ∨ k = 21 then 1 else 0
def ce_add (k : Nat) : Nat := if k = 13 ∨ k = 15 ∨ k = 18 then 2 else if k = 7 ∨ k = 14 ∨ k = 16 ∨ k = 17 ∨ k = 19 ∨ k = 20 ∨ k = 21 ∨ k = 23 then 0 else 1
theorem ce_k24 {k : Nat} (hk : k < 24) : k = 0 ∨ k = 1 ∨ k = 2 ∨ k = 3 ∨ k = 4 ∨ k = 5 ∨ k = 6 ∨ k = 7 ∨ k = 8 ∨ k = 9 ∨ k = 10 ∨ k = 11 ∨ k = 12 ∨ k = 13 ∨ k = 14 ∨ k = 15 ∨ k = 16 ∨ k = 17 ∨ k = 18 ∨ k = 19 ∨ k = 20 ∨ k = 21 ∨ k = 22 ∨ k = 23 := by omega
theorem ce_cost_le (k : Nat) (b : Bool) : 1 ≤ ce_cost k b ∧ ce_cost k b ≤ 8 := by
  unfold ce_cost
  cases b <;> (repeat' split) <;> omega
theorem ce_tkn_le (k : Nat) : ce_tkn k ≤ 3 := by
  unfold ce_tkn
  (repeat' split) <;> omega
theorem ce_add_le (k : Nat) : ce_add k ≤ 2 := by
  unfold ce_add
  (repeat' split) <;> omega
theorem xw_c17t {post : Int32 → Prop} {k : Nat} (hk : k < 24) (hp : post (nI (ce_cost k true))) : wX_costOf_17 post (nI k) 1 xlim xps xvn xkc ev wa wm rf dp ea er lr lu lc xop xnum len st vers evl xms own clr amt arg eg el pos hgt stk sst sev sw swm srf := by
  rcases ce_k24 hk with rfl | rfl | rfl | rfl | rfl | rfl | rfl | rfl | rfl | rfl | rfl | rfl | rfl | rfl | rfl | rfl | rfl | rfl | rfl | rfl | rfl | rfl | rfl | rfl
  all_goals (unfold wX_costOf_17; repeat first | refine br_t (by decide) ?_ | refine br_f (by decide) ?_ | exact hp)
theorem xw_c17f {post : Int32 → Prop} {k : Nat} (hk : k < 24) (hp : post (nI (ce_cost k false))) : wX_costOf_17 post (nI k) 0 xlim xps xvn xkc ev wa wm rf dp ea er lr lu lc xop xnum len st vers evl xms own clr amt arg eg el pos hgt stk sst sev sw swm srf := by
  rcases ce_k24 hk with rfl | rfl | rfl | rfl | rfl | rfl | rfl | rfl | rfl | rfl | rfl | rfl | rfl | rfl | rfl | rfl | rfl | rfl | rfl | rfl | rfl | rfl | rfl | rfl
  all_goals (unfold wX_costOf_17; repeat first | refine br_t (by decide) ?_ | refine br_f (by decide) ?_ | exact hp)
theorem xw_tkn {post : Int32 → Prop} {k : Nat} (hk : k < 24) (hp : post (nI (ce_tkn k))) : wpX_takenBy post (nI k) := by
  rcases ce_k24 hk with rfl | rfl | rfl | rfl | rfl | rfl | rfl | rfl | rfl | rfl | rfl | rfl | rfl | rfl | rfl | rfl | rfl | rfl | rfl | rfl | rfl | rfl | rfl | rfl
  all_goals (unfold wpX_takenBy; repeat first | refine br_t (by decide) ?_ | refine br_f (by decide) ?_ | exact hp)
theorem xw_add {post : Int32 → Prop} {k : Nat} (hk : k < 24) (hp : post (nI (ce_add k))) : wpX_addedBy post (nI k) := by
  rcases ce_k24 hk with rfl | rfl | rfl | rfl | rfl | rfl | rfl | rfl | rfl | rfl | rfl | rfl | rfl | rfl | rfl | rfl | rfl | rfl | rfl | rfl | rfl | rfl | rfl | rfl
  all_goals (unfold wpX_addedBy; repeat first | refine br_t (by decide) ?_ | refine br_f (by decide) ?_ | exact hp)
theorem xw_cost {post : Int32 → Prop} {k pl : Nat} (hk : k < 24) (hl : pl < 30) (hp : post (nI (ce_cost k (bt wm pl)))) : wpX_costOf post (xlim, xps, xvn, xkc, ev, wa, wm, rf, dp, ea, er, lr, lu, lc, xop, xnum, len, st, vers, evl, xms, own, clr, amt, arg, eg, el, pos, hgt, stk, sst, sev, sw, swm, srf) (nI k) (nI pl) := by
  unfold wpX_costOf
  dsimp only
  rw [ce_bit wm hl]
  by_cases hb : bt wm pl = true
  · rw [if_pos hb]
    rw [hb] at hp
    exact br_t rfl (xw_c17t hk hp)
  · rw [if_neg hb]
    rw [show bt wm pl = false from by cases h : bt wm pl <;> simp_all] at hp
    exact br_f (by decide) (xw_c17f hk hp)
theorem yw_tkn {post : Int32 → Prop} {k : Nat} (hk : k < 24) (hp : post (nI (ce_tkn k))) : wpY_takes post (nI k) := by
  rcases ce_k24 hk with rfl | rfl | rfl | rfl | rfl | rfl | rfl | rfl | rfl | rfl | rfl | rfl | rfl | rfl | rfl | rfl | rfl | rfl | rfl | rfl | rfl | rfl | rfl | rfl
  all_goals (unfold wpY_takes; unfold wY_takes_12; repeat first | refine br_t (by decide) ?_ | refine br_f (by decide) ?_ | exact hp)
theorem yw_add {post : Int32 → Prop} {k : Nat} (hk : k < 24) (hp : post (nI (ce_add k))) : wpY_adds post (nI k) := by
  rcases ce_k24 hk with rfl | rfl | rfl | rfl | rfl | rfl | rfl | rfl | rfl | rfl | rfl | rfl | rfl | rfl | rfl | rfl | rfl | rfl | rfl | rfl | rfl | rfl | rfl | rfl
  all_goals (unfold wpY_adds; unfold wY_adds_56; repeat first | refine br_t (by decide) ?_ | refine br_f (by decide) ?_ | exact hp)
theorem yw_cost {post : Int32 → Prop} {k a c : Nat} (hk : k < 24) (ha : a < 6) (hc : c < 4) (hW : ce_WR wm ywm) (hp : post (nI (ce_cost k (bt wm (5 * a + c))))) : wpY_costs post (ylim, ev, wa, rf, dp, yend, yans, yrest, ybeg, yres, yused, ycalls, yver, ykept, yop, ybs, len, st, cps, old, bef, ywm, wcp, ecp, mcp, rcp, evl, yms, ysf, ycl, yam, yar, ygv, yel, yat, ytp, stk) (nI k) (nI (4 * a + c)) := by
  have hv := hW a c ha hc
  by_cases h67 : k = 6 ∨ k = 7
  · by_cases hb : bt wm (5 * a + c) = true
    · rw [if_pos hb] at hv
      rw [hb] at hp
      unfold wpY_costs
      dsimp only
      rw [ce_cl (by omega), hv]
      have hi : vp_in (nI (4 * a + c)) 24 := ce_in (by omega)
      rcases h67 with rfl | rfl
      all_goals (repeat first | refine br_t (by decide) ?_ | refine br_f (by decide) ?_ | refine ⟨hi, ?_⟩ | exact hp)
    · rw [if_neg hb] at hv
      rw [show bt wm (5 * a + c) = false from by cases h : bt wm (5 * a + c) <;> simp_all] at hp
      unfold wpY_costs
      dsimp only
      rw [ce_cl (by omega), hv]
      have hi : vp_in (nI (4 * a + c)) 24 := ce_in (by omega)
      rcases h67 with rfl | rfl
      all_goals (repeat first | refine br_t (by decide) ?_ | refine br_f (by decide) ?_ | refine ⟨hi, ?_⟩ | exact hp)
  · rw [show ce_cost k (bt wm (5 * a + c)) = ce_cost k true from by unfold ce_cost; rw [if_neg (c := k = 6) (by omega), if_neg (c := k = 7) (by omega), if_neg (c := k = 6) (by omega), if_neg (c := k = 7) (by omega)]] at hp
    rcases ce_k24 hk with rfl | rfl | rfl | rfl | rfl | rfl | rfl | rfl | rfl | rfl | rfl | rfl | rfl | rfl | rfl | rfl | rfl | rfl | rfl | rfl | rfl | rfl | rfl | rfl
    all_goals first | exact absurd (Or.inl rfl) h67 | exact absurd (Or.inr rfl) h67 | (unfold wpY_costs; repeat first | refine br_t (by decide) ?_ | refine br_f (by decide) ?_ | exact hp)
end
end
section
section
variable {xlim xps xvn xkc ev wa wm rf dp ea er lr lu lc ylim yend yans yrest ybeg yres yused ycalls yver ykept : Int32} {xop xnum len st vers evl xms own clr amt arg eg el pos hgt stk sst sev sw swm srf yop ybs cps old bef ywm wcp ecp mcp rcp yms ysf ycl yam yar ygv yel yat ytp : Nat → Int32}
def ce_nx (k : Nat) (b : Int32) (p : Nat) (s : Int32) : Int32 := if k = 19 ∨ k = 20 then nI p else if k = 16 ∨ (k = 17 ∧ s = 0) then b else nI (p + 1)
def ce_ny (k : Nat) (b : Int32) (p : Nat) (s : Int32) : Int32 := if k = 16 ∨ (k = 17 ∧ s = 0) then b else nI (p + 1)
theorem xw_next {post : Int32 → Prop} {t h0 p k : Nat} {b : Int32} (ht : t < 5) (hpos : pos t = nI p) (hk : k < 24) (h17 : k = 17 → h0 < 6) (hp : post (ce_nx k b p (stk (6 * t + h0)))) : wpX_nextPosition post (xlim, xps, xvn, xkc, ev, wa, wm, rf, nI (t + 1), ea, er, lr, lu, lc, xop, xnum, len, st, vers, evl, xms, own, clr, amt, arg, eg, el, pos, hgt, stk, sst, sev, sw, swm, srf) (nI k) b (nI (6 * t + h0)) := by
  unfold wpX_nextPosition
  dsimp only
  rw [nI_pred t, ce_cl (t := t) (by omega), hpos]
  unfold ce_nx at hp
  refine ⟨ce_in ht, nm_e (pk_eq k 19 (fun q => ?_) (fun n19 => pk_eq k 20 (fun q => ?_) (fun n20 => pk_eq k 16 (fun q => ?_) (fun n16 => pk_eq k 17 (fun q => ?_) (fun n17 => ?_)))))⟩
  · rw [if_pos (Or.inl q)] at hp; exact hp
  · rw [if_pos (Or.inr q)] at hp; exact hp
  · rw [if_neg (by omega), if_pos (Or.inl q)] at hp; exact hp
  · have := h17 q
    rw [ce_cl (by omega)]
    refine ⟨ce_in (by omega), br_c (fun z => ?_) (fun z => ?_)⟩
    · rw [if_neg (by omega), if_pos (Or.inr ⟨q, z⟩)] at hp; exact hp
    · rw [if_neg (by omega), if_neg (fun q2 => q2.elim n16 (fun q3 => z q3.2))] at hp
      rw [nI_1]; exact hp
  · rw [if_neg (by omega), if_neg (fun q2 => q2.elim n16 (fun q3 => n17 q3.1))] at hp
    rw [nI_1]; exact hp
theorem xs_emp {post : SX → Prop} {U' : SX} {t a : Nat} (ht : t < 5) (ha : a < 6) (hown : own t = nI a) (hlen : len a = nI 0) (hE : ∀ P : SX → Prop, P U' → wpX_endCall P (xlim, xps, xvn, xkc, ev, wa, wm, rf, nI (t + 1), ea, er, lr, lu, lc, xop, xnum, len, st, vers, evl, xms, own, clr, amt, arg, eg, el, pos, hgt, stk, sst, sev, sw, swm, srf) 0 0) (hp : post U') : wpX_step post (xlim, xps, xvn, xkc, ev, wa, wm, rf, nI (t + 1), ea, er, lr, lu, lc, xop, xnum, len, st, vers, evl, xms, own, clr, amt, arg, eg, el, pos, hgt, stk, sst, sev, sw, swm, srf) := by
  unfold wpX_step
  refine nm_r (nI_pred t) ⟨ce_in ht, nm_r ((congrArg own (ce_cl (by omega))).trans hown) ?_⟩
  rw [ce_cl (t := a) (by omega), hlen]
  exact ⟨ce_in (by omega), br_t rfl (hE _ hp)⟩
theorem xs_out {post : SX → Prop} {U' : SX} {t a p k c L e : Nat} {b : Int32} (ht : t < 5) (ha : a < 6) (hown : own t = nI a) (hlen : len a = nI L) (hL : L ≤ 24) (hpos : pos t = nI p) (hpL : p < L) (hop : xop (24 * a + p) = nI k) (hk : k < 24) (hb : xnum (24 * a + p) = b) (hc : b &&& 3 = nI c) (hc4 : c < 4) (hel : el t = nI e) (he : e ≤ 1000) (hC : e < ce_cost k (bt wm (5 * a + c))) (hE : ∀ P : SX → Prop, P U' → wpX_endCall P (xlim, xps, xvn, xkc, ev, wa, wm, rf, nI (t + 1), ea, er, lr, lu, lc, xop, xnum, len, st, vers, evl, xms, own, clr, amt, arg, eg, el, pos, hgt, stk, sst, sev, sw, swm, srf) 2 0) (hp : post U') : wpX_step post (xlim, xps, xvn, xkc, ev, wa, wm, rf, nI (t + 1), ea, er, lr, lu, lc, xop, xnum, len, st, vers, evl, xms, own, clr, amt, arg, eg, el, pos, hgt, stk, sst, sev, sw, swm, srf) := by
  unfold wpX_step
  refine nm_r (nI_pred t) ⟨ce_in ht, nm_r ((congrArg own (ce_cl (by omega))).trans hown) ?_⟩
  rw [ce_cl (t := a) (by omega), hlen]
  refine ⟨ce_in (by omega), br_f (nI_ne0 (by omega) (by omega)) ⟨ce_in ht, nm_r (show nI a * 24 + pos (nI t).toNatClampNeg = nI (24 * a + p) from by rw [ce_cl (by omega), hpos, ce_mR24, nI_add]) ⟨ce_in (by omega), nm_r (show xop (nI (24 * a + p)).toNatClampNeg = nI k from by rw [ce_cl (by omega), hop]) ⟨ce_in (by omega), nm_r (show xnum (nI (24 * a + p)).toNatClampNeg = b from by rw [ce_cl (by omega), hb]) ?_⟩⟩⟩⟩
  rw [hc, ce_mR5, nI_add (5 * a) c]
  refine xw_cost hk (by omega) ?_
  rw [ce_cl (t := t) (by omega), hel]
  have hC8 := (ce_cost_le k (bt wm (5 * a + c))).2
  exact ⟨ce_in ht, br_f (nI_ge hC (by omega)) (hE _ hp)⟩
theorem xs_low {post : SX → Prop} {U' : SX} {t a p k c L e : Nat} {b : Int32} (ht : t < 5) (ha : a < 6) (hown : own t = nI a) (hlen : len a = nI L) (hL : L ≤ 24) (hpos : pos t = nI p) (hpL : p < L) (hop : xop (24 * a + p) = nI k) (hk : k < 24) (hb : xnum (24 * a + p) = b) (hc : b &&& 3 = nI c) (hc4 : c < 4) (hel : el t = nI e) (he : e ≤ 1000) (hC : ce_cost k (bt wm (5 * a + c)) ≤ e) {h : Nat} (hh : hgt t = nI h) (hlo : h < ce_tkn k) (hE : ∀ P : SX → Prop, P U' → wpX_endCall P (xlim, xps, xvn, xkc, ev, wa, wm, rf, nI (t + 1), ea, er, lr, lu, lc, xop, xnum, len, st, vers, evl, xms, own, clr, amt, arg, eg, upd el t (nI (e - ce_cost k (bt wm (5 * a + c)))), pos, hgt, stk, sst, sev, sw, swm, srf) 3 0) (hp : post U') : wpX_step post (xlim, xps, xvn, xkc, ev, wa, wm, rf, nI (t + 1), ea, er, lr, lu, lc, xop, xnum, len, st, vers, evl, xms, own, clr, amt, arg, eg, el, pos, hgt, stk, sst, sev, sw, swm, srf) := by
  unfold wpX_step
  refine nm_r (nI_pred t) ⟨ce_in ht, nm_r ((congrArg own (ce_cl (by omega))).trans hown) ?_⟩
  rw [ce_cl (t := a) (by omega), hlen]
  refine ⟨ce_in (by omega), br_f (nI_ne0 (by omega) (by omega)) ⟨ce_in ht, nm_r (show nI a * 24 + pos (nI t).toNatClampNeg = nI (24 * a + p) from by rw [ce_cl (by omega), hpos, ce_mR24, nI_add]) ⟨ce_in (by omega), nm_r (show xop (nI (24 * a + p)).toNatClampNeg = nI k from by rw [ce_cl (by omega), hop]) ⟨ce_in (by omega), nm_r (show xnum (nI (24 * a + p)).toNatClampNeg = b from by rw [ce_cl (by omega), hb]) ?_⟩⟩⟩⟩
  rw [hc, ce_mR5, nI_add (5 * a) c]
  refine xw_cost hk (by omega) ?_
  rw [ce_cl (t := t) (by omega), hel]
  have hC8 := (ce_cost_le k (bt wm (5 * a + c))).2
  refine ⟨ce_in ht, br_t (nI_le hC (by omega)) ⟨ce_in ht, ce_in ht, nm_r (congrArg (upd el t) (pk_sub hC)) ⟨ce_in ht, xw_tkn hk ?_⟩⟩⟩
  have hk3 := ce_tkn_le k
  refine nm_e (xw_add hk (nm_e (br_t ?_ ?_)))
  · rw [hh]; exact pk_sneg (by omega) hlo
  · unfold wX_step_139
    exact hE _ hp
theorem xs_hig {post : SX → Prop} {U' : SX} {t a p k c L e : Nat} {b : Int32} (ht : t < 5) (ha : a < 6) (hown : own t = nI a) (hlen : len a = nI L) (hL : L ≤ 24) (hpos : pos t = nI p) (hpL : p < L) (hop : xop (24 * a + p) = nI k) (hk : k < 24) (hb : xnum (24 * a + p) = b) (hc : b &&& 3 = nI c) (hc4 : c < 4) (hel : el t = nI e) (he : e ≤ 1000) (hC : ce_cost k (bt wm (5 * a + c)) ≤ e) {h0 : Nat} (hh : hgt t = nI (h0 + ce_tkn k)) (hh6 : h0 + ce_tkn k ≤ 6) (hhi : 6 < h0 + ce_add k) (hE : ∀ P : SX → Prop, P U' → wpX_endCall P (xlim, xps, xvn, xkc, ev, wa, wm, rf, nI (t + 1), ea, er, lr, lu, lc, xop, xnum, len, st, vers, evl, xms, own, clr, amt, arg, eg, upd el t (nI (e - ce_cost k (bt wm (5 * a + c)))), pos, hgt, stk, sst, sev, sw, swm, srf) 3 0) (hp : post U') : wpX_step post (xlim, xps, xvn, xkc, ev, wa, wm, rf, nI (t + 1), ea, er, lr, lu, lc, xop, xnum, len, st, vers, evl, xms, own, clr, amt, arg, eg, el, pos, hgt, stk, sst, sev, sw, swm, srf) := by
  unfold wpX_step
  refine nm_r (nI_pred t) ⟨ce_in ht, nm_r ((congrArg own (ce_cl (by omega))).trans hown) ?_⟩
  rw [ce_cl (t := a) (by omega), hlen]
  refine ⟨ce_in (by omega), br_f (nI_ne0 (by omega) (by omega)) ⟨ce_in ht, nm_r (show nI a * 24 + pos (nI t).toNatClampNeg = nI (24 * a + p) from by rw [ce_cl (by omega), hpos, ce_mR24, nI_add]) ⟨ce_in (by omega), nm_r (show xop (nI (24 * a + p)).toNatClampNeg = nI k from by rw [ce_cl (by omega), hop]) ⟨ce_in (by omega), nm_r (show xnum (nI (24 * a + p)).toNatClampNeg = b from by rw [ce_cl (by omega), hb]) ?_⟩⟩⟩⟩
  rw [hc, ce_mR5, nI_add (5 * a) c]
  refine xw_cost hk (by omega) ?_
  rw [ce_cl (t := t) (by omega), hel]
  have hC8 := (ce_cost_le k (bt wm (5 * a + c))).2
  refine ⟨ce_in ht, br_t (nI_le hC (by omega)) ⟨ce_in ht, ce_in ht, nm_r (congrArg (upd el t) (pk_sub hC)) ⟨ce_in ht, xw_tkn hk ?_⟩⟩⟩
  have hk3 := ce_tkn_le k
  have hk2 := ce_add_le k
  refine nm_r (show hgt t - nI (ce_tkn k) = nI h0 from by rw [hh, pk_sub (by omega)]; exact congrArg nI (by omega)) (xw_add hk (nm_r (nI_add h0 (ce_add k)) (br_f (nI_pos (by omega)) ?_)))
  refine br_f (nI_ge (a := 6) hhi (by omega)) ?_
  unfold wX_step_139
  exact hE _ hp
theorem xs_jmp {post : SX → Prop} {U' : SX} {t a p k c L e : Nat} {b : Int32} (ht : t < 5) (ha : a < 6) (hown : own t = nI a) (hlen : len a = nI L) (hL : L ≤ 24) (hpos : pos t = nI p) (hpL : p < L) (hop : xop (24 * a + p) = nI k) (hk : k < 24) (hb : xnum (24 * a + p) = b) (hc : b &&& 3 = nI c) (hc4 : c < 4) (hel : el t = nI e) (he : e ≤ 1000) (hC : ce_cost k (bt wm (5 * a + c)) ≤ e) {h0 : Nat} (hh : hgt t = nI (h0 + ce_tkn k)) (hh6 : h0 + ce_tkn k ≤ 6) (h6 : h0 + ce_add k ≤ 6) (h17 : k = 17 → h0 < 6) (hn : ce_nx k b p (stk (6 * t + h0)) < 0 ∨ ¬ ce_nx k b p (stk (6 * t + h0)) < nI L) (hE : ∀ P : SX → Prop, P U' → wpX_endCall P (xlim, xps, xvn, xkc, ev, wa, wm, rf, nI (t + 1), ea, er, lr, lu, lc, xop, xnum, len, st, vers, evl, xms, own, clr, amt, arg, eg, upd el t (nI (e - ce_cost k (bt wm (5 * a + c)))), pos, hgt, stk, sst, sev, sw, swm, srf) 3 0) (hp : post U') : wpX_step post (xlim, xps, xvn, xkc, ev, wa, wm, rf, nI (t + 1), ea, er, lr, lu, lc, xop, xnum, len, st, vers, evl, xms, own, clr, amt, arg, eg, el, pos, hgt, stk, sst, sev, sw, swm, srf) := by
  unfold wpX_step
  refine nm_r (nI_pred t) ⟨ce_in ht, nm_r ((congrArg own (ce_cl (by omega))).trans hown) ?_⟩
  rw [ce_cl (t := a) (by omega), hlen]
  refine ⟨ce_in (by omega), br_f (nI_ne0 (by omega) (by omega)) ⟨ce_in ht, nm_r (show nI a * 24 + pos (nI t).toNatClampNeg = nI (24 * a + p) from by rw [ce_cl (by omega), hpos, ce_mR24, nI_add]) ⟨ce_in (by omega), nm_r (show xop (nI (24 * a + p)).toNatClampNeg = nI k from by rw [ce_cl (by omega), hop]) ⟨ce_in (by omega), nm_r (show xnum (nI (24 * a + p)).toNatClampNeg = b from by rw [ce_cl (by omega), hb]) ?_⟩⟩⟩⟩
  rw [hc, ce_mR5, nI_add (5 * a) c]
  refine xw_cost hk (by omega) ?_
  rw [ce_cl (t := t) (by omega), hel]
  have hC8 := (ce_cost_le k (bt wm (5 * a + c))).2
  refine ⟨ce_in ht, br_t (nI_le hC (by omega)) ⟨ce_in ht, ce_in ht, nm_r (congrArg (upd el t) (pk_sub hC)) ⟨ce_in ht, xw_tkn hk ?_⟩⟩⟩
  have hk3 := ce_tkn_le k
  have hk2 := ce_add_le k
  refine nm_r (show hgt t - nI (ce_tkn k) = nI h0 from by rw [hh, pk_sub (by omega)]; exact congrArg nI (by omega)) (xw_add hk (nm_r (nI_add h0 (ce_add k)) (br_f (nI_pos (by omega)) ?_)))
  refine br_t (nI_le (b := 6) h6 (by decide)) (nm_r (show nI t * 6 + nI h0 = nI (6 * t + h0) from by rw [ce_mR6, nI_add]) (xw_next ht hpos hk h17 ?_))
  refine br_c (fun _ => ?_) (fun n0 => ⟨ce_in (by omega), br_f (hn.resolve_left n0) ?_⟩)
  all_goals (unfold wX_step_183; exact hE _ hp)
theorem xs_ret {post : SX → Prop} {U' : SX} {t a p k c L e : Nat} {b : Int32} (ht : t < 5) (ha : a < 6) (hown : own t = nI a) (hlen : len a = nI L) (hL : L ≤ 24) (hpos : pos t = nI p) (hpL : p < L) (hop : xop (24 * a + p) = nI k) (hk : k < 24) (hb : xnum (24 * a + p) = b) (hc : b &&& 3 = nI c) (hc4 : c < 4) (hel : el t = nI e) (he : e ≤ 1000) (hC : ce_cost k (bt wm (5 * a + c)) ≤ e) {h0 : Nat} (hh : hgt t = nI (h0 + ce_tkn k)) (hh6 : h0 + ce_tkn k ≤ 6) (h6 : h0 + ce_add k ≤ 6) (h17 : k = 17 → h0 < 6) {p' : Nat} (hn : ce_nx k b p (stk (6 * t + h0)) = nI p') (hp' : p' < L) (h19 : k = 19) (hE : ∀ P : SX → Prop, P U' → wpX_endCall P (xlim, xps, xvn, xkc, ev, wa, wm, rf, nI (t + 1), ea, er, lr, lu, lc, xop, xnum, len, st, vers, evl, xms, own, clr, amt, arg, eg, upd el t (nI (e - ce_cost k (bt wm (5 * a + c)))), upd pos t (nI p'), upd hgt t (nI h0), stk, sst, sev, sw, swm, srf) 0 (stk (6 * t + h0))) (hp : post U') : wpX_step post (xlim, xps, xvn, xkc, ev, wa, wm, rf, nI (t + 1), ea, er, lr, lu, lc, xop, xnum, len, st, vers, evl, xms, own, clr, amt, arg, eg, el, pos, hgt, stk, sst, sev, sw, swm, srf) := by
  unfold wpX_step
  refine nm_r (nI_pred t) ⟨ce_in ht, nm_r ((congrArg own (ce_cl (by omega))).trans hown) ?_⟩
  rw [ce_cl (t := a) (by omega), hlen]
  refine ⟨ce_in (by omega), br_f (nI_ne0 (by omega) (by omega)) ⟨ce_in ht, nm_r (show nI a * 24 + pos (nI t).toNatClampNeg = nI (24 * a + p) from by rw [ce_cl (by omega), hpos, ce_mR24, nI_add]) ⟨ce_in (by omega), nm_r (show xop (nI (24 * a + p)).toNatClampNeg = nI k from by rw [ce_cl (by omega), hop]) ⟨ce_in (by omega), nm_r (show xnum (nI (24 * a + p)).toNatClampNeg = b from by rw [ce_cl (by omega), hb]) ?_⟩⟩⟩⟩
  rw [hc, ce_mR5, nI_add (5 * a) c]
  refine xw_cost hk (by omega) ?_
  rw [ce_cl (t := t) (by omega), hel]
  have hC8 := (ce_cost_le k (bt wm (5 * a + c))).2
  refine ⟨ce_in ht, br_t (nI_le hC (by omega)) ⟨ce_in ht, ce_in ht, nm_r (congrArg (upd el t) (pk_sub hC)) ⟨ce_in ht, xw_tkn hk ?_⟩⟩⟩
  have hk3 := ce_tkn_le k
  have hk2 := ce_add_le k
  refine nm_r (show hgt t - nI (ce_tkn k) = nI h0 from by rw [hh, pk_sub (by omega)]; exact congrArg nI (by omega)) (xw_add hk (nm_r (nI_add h0 (ce_add k)) (br_f (nI_pos (by omega)) ?_)))
  refine br_t (nI_le (b := 6) h6 (by decide)) (nm_r (show nI t * 6 + nI h0 = nI (6 * t + h0) from by rw [ce_mR6, nI_add]) (xw_next ht hpos hk h17 ?_))
  rw [hn]
  refine br_f (nI_pos (by omega)) ⟨ce_in (by omega), br_t (nI_lt hp' (by omega)) ⟨ce_in ht, nm_e ⟨ce_in ht, nm_e ?_⟩⟩⟩
  subst h19
  rw [ce_cl (t := 6 * t + h0) (by omega)]
  exact br_t rfl ⟨ce_in (by have : ce_tkn 19 = 1 := rfl; omega), hE _ hp⟩
theorem xs_rvt {post : SX → Prop} {U' : SX} {t a p k c L e : Nat} {b : Int32} (ht : t < 5) (ha : a < 6) (hown : own t = nI a) (hlen : len a = nI L) (hL : L ≤ 24) (hpos : pos t = nI p) (hpL : p < L) (hop : xop (24 * a + p) = nI k) (hk : k < 24) (hb : xnum (24 * a + p) = b) (hc : b &&& 3 = nI c) (hc4 : c < 4) (hel : el t = nI e) (he : e ≤ 1000) (hC : ce_cost k (bt wm (5 * a + c)) ≤ e) {h0 : Nat} (hh : hgt t = nI (h0 + ce_tkn k)) (hh6 : h0 + ce_tkn k ≤ 6) (h6 : h0 + ce_add k ≤ 6) (h17 : k = 17 → h0 < 6) {p' : Nat} (hn : ce_nx k b p (stk (6 * t + h0)) = nI p') (hp' : p' < L) (h20 : k = 20) (hE : ∀ P : SX → Prop, P U' → wpX_endCall P (xlim, xps, xvn, xkc, ev, wa, wm, rf, nI (t + 1), ea, er, lr, lu, lc, xop, xnum, len, st, vers, evl, xms, own, clr, amt, arg, eg, upd el t (nI (e - ce_cost k (bt wm (5 * a + c)))), upd pos t (nI p'), upd hgt t (nI h0), stk, sst, sev, sw, swm, srf) 1 (stk (6 * t + h0))) (hp : post U') : wpX_step post (xlim, xps, xvn, xkc, ev, wa, wm, rf, nI (t + 1), ea, er, lr, lu, lc, xop, xnum, len, st, vers, evl, xms, own, clr, amt, arg, eg, el, pos, hgt, stk, sst, sev, sw, swm, srf) := by
  unfold wpX_step
  refine nm_r (nI_pred t) ⟨ce_in ht, nm_r ((congrArg own (ce_cl (by omega))).trans hown) ?_⟩
  rw [ce_cl (t := a) (by omega), hlen]
  refine ⟨ce_in (by omega), br_f (nI_ne0 (by omega) (by omega)) ⟨ce_in ht, nm_r (show nI a * 24 + pos (nI t).toNatClampNeg = nI (24 * a + p) from by rw [ce_cl (by omega), hpos, ce_mR24, nI_add]) ⟨ce_in (by omega), nm_r (show xop (nI (24 * a + p)).toNatClampNeg = nI k from by rw [ce_cl (by omega), hop]) ⟨ce_in (by omega), nm_r (show xnum (nI (24 * a + p)).toNatClampNeg = b from by rw [ce_cl (by omega), hb]) ?_⟩⟩⟩⟩
  rw [hc, ce_mR5, nI_add (5 * a) c]
  refine xw_cost hk (by omega) ?_
  rw [ce_cl (t := t) (by omega), hel]
  have hC8 := (ce_cost_le k (bt wm (5 * a + c))).2
  refine ⟨ce_in ht, br_t (nI_le hC (by omega)) ⟨ce_in ht, ce_in ht, nm_r (congrArg (upd el t) (pk_sub hC)) ⟨ce_in ht, xw_tkn hk ?_⟩⟩⟩
  have hk3 := ce_tkn_le k
  have hk2 := ce_add_le k
  refine nm_r (show hgt t - nI (ce_tkn k) = nI h0 from by rw [hh, pk_sub (by omega)]; exact congrArg nI (by omega)) (xw_add hk (nm_r (nI_add h0 (ce_add k)) (br_f (nI_pos (by omega)) ?_)))
  refine br_t (nI_le (b := 6) h6 (by decide)) (nm_r (show nI t * 6 + nI h0 = nI (6 * t + h0) from by rw [ce_mR6, nI_add]) (xw_next ht hpos hk h17 ?_))
  rw [hn]
  refine br_f (nI_pos (by omega)) ⟨ce_in (by omega), br_t (nI_lt hp' (by omega)) ⟨ce_in ht, nm_e ⟨ce_in ht, nm_e ?_⟩⟩⟩
  subst h20
  rw [ce_cl (t := 6 * t + h0) (by omega)]
  exact br_f (by decide) (br_t rfl ⟨ce_in (by have : ce_tkn 20 = 1 := rfl; omega), hE _ hp⟩)
theorem xs_cll {post : SX → Prop} {U' : SX} {t a p k c L e : Nat} {b : Int32} (ht : t < 5) (ha : a < 6) (hown : own t = nI a) (hlen : len a = nI L) (hL : L ≤ 24) (hpos : pos t = nI p) (hpL : p < L) (hop : xop (24 * a + p) = nI k) (hk : k < 24) (hb : xnum (24 * a + p) = b) (hc : b &&& 3 = nI c) (hc4 : c < 4) (hel : el t = nI e) (he : e ≤ 1000) (hC : ce_cost k (bt wm (5 * a + c)) ≤ e) {h0 : Nat} (hh : hgt t = nI (h0 + ce_tkn k)) (hh6 : h0 + ce_tkn k ≤ 6) (h6 : h0 + ce_add k ≤ 6) (h17 : k = 17 → h0 < 6) {p' : Nat} (hn : ce_nx k b p (stk (6 * t + h0)) = nI p') (hp' : p' < L) (h18 : k = 18) (hE : ∀ P : SX → Prop, P U' → wpX_callOther P (xlim, xps, xvn, xkc, ev, wa, wm, rf, nI (t + 1), ea, er, lr, lu, lc, xop, xnum, len, st, vers, evl, xms, own, clr, amt, arg, eg, upd el t (nI (e - ce_cost k (bt wm (5 * a + c)))), upd pos t (nI p'), upd hgt t (nI h0), stk, sst, sev, sw, swm, srf) b (nI (6 * t + h0))) (hp : post U') : wpX_step post (xlim, xps, xvn, xkc, ev, wa, wm, rf, nI (t + 1), ea, er, lr, lu, lc, xop, xnum, len, st, vers, evl, xms, own, clr, amt, arg, eg, el, pos, hgt, stk, sst, sev, sw, swm, srf) := by
  unfold wpX_step
  refine nm_r (nI_pred t) ⟨ce_in ht, nm_r ((congrArg own (ce_cl (by omega))).trans hown) ?_⟩
  rw [ce_cl (t := a) (by omega), hlen]
  refine ⟨ce_in (by omega), br_f (nI_ne0 (by omega) (by omega)) ⟨ce_in ht, nm_r (show nI a * 24 + pos (nI t).toNatClampNeg = nI (24 * a + p) from by rw [ce_cl (by omega), hpos, ce_mR24, nI_add]) ⟨ce_in (by omega), nm_r (show xop (nI (24 * a + p)).toNatClampNeg = nI k from by rw [ce_cl (by omega), hop]) ⟨ce_in (by omega), nm_r (show xnum (nI (24 * a + p)).toNatClampNeg = b from by rw [ce_cl (by omega), hb]) ?_⟩⟩⟩⟩
  rw [hc, ce_mR5, nI_add (5 * a) c]
  refine xw_cost hk (by omega) ?_
  rw [ce_cl (t := t) (by omega), hel]
  have hC8 := (ce_cost_le k (bt wm (5 * a + c))).2
  refine ⟨ce_in ht, br_t (nI_le hC (by omega)) ⟨ce_in ht, ce_in ht, nm_r (congrArg (upd el t) (pk_sub hC)) ⟨ce_in ht, xw_tkn hk ?_⟩⟩⟩
  have hk3 := ce_tkn_le k
  have hk2 := ce_add_le k
  refine nm_r (show hgt t - nI (ce_tkn k) = nI h0 from by rw [hh, pk_sub (by omega)]; exact congrArg nI (by omega)) (xw_add hk (nm_r (nI_add h0 (ce_add k)) (br_f (nI_pos (by omega)) ?_)))
  refine br_t (nI_le (b := 6) h6 (by decide)) (nm_r (show nI t * 6 + nI h0 = nI (6 * t + h0) from by rw [ce_mR6, nI_add]) (xw_next ht hpos hk h17 ?_))
  rw [hn]
  refine br_f (nI_pos (by omega)) ⟨ce_in (by omega), br_t (nI_lt hp' (by omega)) ⟨ce_in ht, nm_e ⟨ce_in ht, nm_e ?_⟩⟩⟩
  subst h18
  exact br_f (by decide) (br_f (by decide) (br_t rfl (hE _ hp)))
theorem xs_exe {post : SX → Prop} {U' : SX} {t a p k c L e : Nat} {b : Int32} (ht : t < 5) (ha : a < 6) (hown : own t = nI a) (hlen : len a = nI L) (hL : L ≤ 24) (hpos : pos t = nI p) (hpL : p < L) (hop : xop (24 * a + p) = nI k) (hk : k < 24) (hb : xnum (24 * a + p) = b) (hc : b &&& 3 = nI c) (hc4 : c < 4) (hel : el t = nI e) (he : e ≤ 1000) (hC : ce_cost k (bt wm (5 * a + c)) ≤ e) {h0 : Nat} (hh : hgt t = nI (h0 + ce_tkn k)) (hh6 : h0 + ce_tkn k ≤ 6) (h6 : h0 + ce_add k ≤ 6) (h17 : k = 17 → h0 < 6) {p' : Nat} (hn : ce_nx k b p (stk (6 * t + h0)) = nI p') (hp' : p' < L) (n18 : k ≠ 18) (n19 : k ≠ 19) (n20 : k ≠ 20) (hE : ∀ P : SX → Prop, P U' → wpX_execute P (xlim, xps, xvn, xkc, ev, wa, wm, rf, nI (t + 1), ea, er, lr, lu, lc, xop, xnum, len, st, vers, evl, xms, own, clr, amt, arg, eg, upd el t (nI (e - ce_cost k (bt wm (5 * a + c)))), upd pos t (nI p'), upd hgt t (nI h0), stk, sst, sev, sw, swm, srf) (nI k) b (nI (6 * t + h0))) (hp : post U') : wpX_step post (xlim, xps, xvn, xkc, ev, wa, wm, rf, nI (t + 1), ea, er, lr, lu, lc, xop, xnum, len, st, vers, evl, xms, own, clr, amt, arg, eg, el, pos, hgt, stk, sst, sev, sw, swm, srf) := by
  unfold wpX_step
  refine nm_r (nI_pred t) ⟨ce_in ht, nm_r ((congrArg own (ce_cl (by omega))).trans hown) ?_⟩
  rw [ce_cl (t := a) (by omega), hlen]
  refine ⟨ce_in (by omega), br_f (nI_ne0 (by omega) (by omega)) ⟨ce_in ht, nm_r (show nI a * 24 + pos (nI t).toNatClampNeg = nI (24 * a + p) from by rw [ce_cl (by omega), hpos, ce_mR24, nI_add]) ⟨ce_in (by omega), nm_r (show xop (nI (24 * a + p)).toNatClampNeg = nI k from by rw [ce_cl (by omega), hop]) ⟨ce_in (by omega), nm_r (show xnum (nI (24 * a + p)).toNatClampNeg = b from by rw [ce_cl (by omega), hb]) ?_⟩⟩⟩⟩
  rw [hc, ce_mR5, nI_add (5 * a) c]
  refine xw_cost hk (by omega) ?_
  rw [ce_cl (t := t) (by omega), hel]
  have hC8 := (ce_cost_le k (bt wm (5 * a + c))).2
  refine ⟨ce_in ht, br_t (nI_le hC (by omega)) ⟨ce_in ht, ce_in ht, nm_r (congrArg (upd el t) (pk_sub hC)) ⟨ce_in ht, xw_tkn hk ?_⟩⟩⟩
  have hk3 := ce_tkn_le k
  have hk2 := ce_add_le k
  refine nm_r (show hgt t - nI (ce_tkn k) = nI h0 from by rw [hh, pk_sub (by omega)]; exact congrArg nI (by omega)) (xw_add hk (nm_r (nI_add h0 (ce_add k)) (br_f (nI_pos (by omega)) ?_)))
  refine br_t (nI_le (b := 6) h6 (by decide)) (nm_r (show nI t * 6 + nI h0 = nI (6 * t + h0) from by rw [ce_mR6, nI_add]) (xw_next ht hpos hk h17 ?_))
  rw [hn]
  refine br_f (nI_pos (by omega)) ⟨ce_in (by omega), br_t (nI_lt hp' (by omega)) ⟨ce_in ht, nm_e ⟨ce_in ht, nm_e ?_⟩⟩⟩
  exact pk_eq k 19 (fun q => absurd q n19) (fun _ => pk_eq k 20 (fun q => absurd q n20) (fun _ => pk_eq k 18 (fun q => absurd q n18) (fun _ => hE _ hp)))
end
end
section
section
variable {xlim xps xvn xkc ev wa wm rf dp ea er lr lu lc ylim yend yans yrest ybeg yres yused ycalls yver ykept : Int32} {xop xnum len st vers evl xms own clr amt arg eg el pos hgt stk sst sev sw swm srf yop ybs cps old bef ywm wcp ecp mcp rcp yms ysf ycl yam yar ygv yel yat ytp : Nat → Int32}
theorem ys_202f {post : SY → Prop} {V' : SY} {x1 x2 x3 x4 x7 z0 : Int32} (hE : ∀ P : SY → Prop, P V' → wpY_end P (ylim, ev, wa, rf, dp, yend, yans, yrest, ybeg, yres, yused, ycalls, yver, ykept, yop, ybs, len, st, cps, old, bef, ywm, wcp, ecp, mcp, rcp, evl, yms, ysf, ycl, yam, yar, ygv, yel, yat, ytp, stk) 3 0) (hp : post V') : wY_step_202 post x1 x2 x3 x4 0 x7 z0 (ylim) (ev) (wa) (rf) (dp) (yend) (yans) (yrest) (ybeg) (yres) (yused) (ycalls) (yver) (ykept) (yop) (ybs) (len) (st) (cps) (old) (bef) (ywm) (wcp) (ecp) (mcp) (rcp) (evl) (yms) (ysf) (ycl) (yam) (yar) (ygv) (yel) (yat) (ytp) (stk) := by
  unfold wY_step_202 wY_step_235
  exact br_t rfl (hE _ hp)
theorem ys_185f {post : SY → Prop} {V' : SY} {x1 x2 x3 x4 x7 : Int32} (hE : ∀ P : SY → Prop, P V' → wpY_end P (ylim, ev, wa, rf, dp, yend, yans, yrest, ybeg, yres, yused, ycalls, yver, ykept, yop, ybs, len, st, cps, old, bef, ywm, wcp, ecp, mcp, rcp, evl, yms, ysf, ycl, yam, yar, ygv, yel, yat, ytp, stk) 3 0) (hp : post V') : wY_step_185 post x1 x2 x3 x4 0 x7 (ylim) (ev) (wa) (rf) (dp) (yend) (yans) (yrest) (ybeg) (yres) (yused) (ycalls) (yver) (ykept) (yop) (ybs) (len) (st) (cps) (old) (bef) (ywm) (wcp) (ecp) (mcp) (rcp) (evl) (yms) (ysf) (ycl) (yam) (yar) (ygv) (yel) (yat) (ytp) (stk) := by
  unfold wY_step_185 wY_step_197
  exact br_c (fun _ => ys_202f hE hp) (fun _ => br_c (fun _ => ys_202f hE hp) (fun _ => ys_202f hE hp))
theorem ys_126 {post : SY → Prop} {V' : SY} {t x : Nat} {x3 x4 : Int32} (ht : t < 5) (hx : x < 168) (hE : ∀ P : SY → Prop, P V' → wpY_end P (ylim, ev, wa, rf, dp, yend, yans, yrest, ybeg, yres, yused, ycalls, yver, ykept, yop, ybs, len, st, cps, old, bef, ywm, wcp, ecp, mcp, rcp, evl, yms, ysf, ycl, yam, yar, ygv, yel, yat, ytp, stk) 3 0) (hp : post V') : wY_step_126 post (nI t) (nI x) x3 x4 (ylim) (ev) (wa) (rf) (dp) (yend) (yans) (yrest) (ybeg) (yres) (yused) (ycalls) (yver) (ykept) (yop) (ybs) (len) (st) (cps) (old) (bef) (ywm) (wcp) (ecp) (mcp) (rcp) (evl) (yms) (ysf) (ycl) (yam) (yar) (ygv) (yel) (yat) (ytp) (stk) := by
  unfold wY_step_126 wY_step_127
  refine ⟨ce_in ht, nm_e (br_c (fun _ => ?_) (fun _ => br_c (fun _ => br_t rfl (ys_185f hE hp)) (fun _ => ys_185f hE hp)))⟩
  unfold wY_step_177
  exact ⟨ce_in hx, nm_e (ys_185f hE hp)⟩
theorem ys_127 {post : SY → Prop} {t p k h0 x : Nat} {b x4 : Int32} (ht : t < 5) (hx : x < 168) (hpos : yat t = nI p) (hb : ybs x = b) (hk : k < 24) (hh : ytp t = nI (h0 + ce_tkn k)) (hh6 : h0 + ce_tkn k ≤ 6) (hp : wY_step_185 post (nI t) (nI x) (nI k) x4 1 (ce_ny k b p (stk (6 * t + h0))) (ylim) (ev) (wa) (rf) (dp) (yend) (yans) (yrest) (ybeg) (yres) (yused) (ycalls) (yver) (ykept) (yop) (ybs) (len) (st) (cps) (old) (bef) (ywm) (wcp) (ecp) (mcp) (rcp) (evl) (yms) (ysf) (ycl) (yam) (yar) (ygv) (yel) (yat) (ytp) (stk)) : wY_step_127 post (nI t) (nI x) (nI k) x4 1 (ylim) (ev) (wa) (rf) (dp) (yend) (yans) (yrest) (ybeg) (yres) (yused) (ycalls) (yver) (ykept) (yop) (ybs) (len) (st) (cps) (old) (bef) (ywm) (wcp) (ecp) (mcp) (rcp) (evl) (yms) (ysf) (ycl) (yam) (yar) (ygv) (yel) (yat) (ytp) (stk) := by
  unfold ce_ny at hp
  have h177 : (k = 16 ∨ (k = 17 ∧ stk (6 * t + h0) = 0)) → wY_step_177 post (nI t) (nI x) (nI k) x4 1 (ylim) (ev) (wa) (rf) (dp) (yend) (yans) (yrest) (ybeg) (yres) (yused) (ycalls) (yver) (ykept) (yop) (ybs) (len) (st) (cps) (old) (bef) (ywm) (wcp) (ecp) (mcp) (rcp) (evl) (yms) (ysf) (ycl) (yam) (yar) (ygv) (yel) (yat) (ytp) (stk) := by
    intro q
    rw [if_pos q] at hp
    unfold wY_step_177
    rw [ce_cl (by omega), hb]
    exact ⟨ce_in hx, nm_e hp⟩
  unfold wY_step_127
  rw [ce_cl (t := t) (by omega), hpos, nI_1]
  refine ⟨ce_in ht, nm_e (pk_eq k 16 (fun q => h177 (Or.inl q)) (fun n16 => pk_eq k 17 (fun q => br_f (by decide) ?_) (fun n17 => ?_)))⟩
  · have h1 : ce_tkn k = 1 := by rw [q]; rfl
    rw [hh, h1, ce_mL6, nI_add, show 6 * t + (h0 + 1) = (6 * t + h0) + 1 from rfl, nI_pred, ce_cl (by omega)]
    refine ⟨ce_in ht, ce_in (by omega), br_c (fun z => h177 (Or.inr ⟨q, z⟩)) (fun z => ?_)⟩
    rw [if_neg (fun q2 => q2.elim n16 (fun q3 => z q3.2))] at hp
    exact hp
  · rw [if_neg (fun q2 => q2.elim n16 (fun q3 => n17 q3.1))] at hp
    exact hp
theorem ys_out {post : SY → Prop} {V' : SY} {t a p k c L e : Nat} {b : Int32} (ht : t < 5) (ha : a < 6) (hown : ysf t = nI a) (hlen : len a = nI L) (hL : L ≤ 24) (hpos : yat t = nI p) (hpL : p < L) (hop : yop (24 * a + p) = nI k) (hk : k < 24) (hb : ybs (24 * a + p) = b) (hc : b &&& 3 = nI c) (hc4 : c < 4) (hel : yel t = nI e) (he : e ≤ 1000) (hW : ce_WR wm ywm) (hC : e < ce_cost k (bt wm (5 * a + c))) (hE : ∀ P : SY → Prop, P V' → wpY_end P (ylim, ev, wa, rf, nI (t + 1), yend, yans, yrest, ybeg, yres, yused, ycalls, yver, ykept, yop, ybs, len, st, cps, old, bef, ywm, wcp, ecp, mcp, rcp, evl, yms, ysf, ycl, yam, yar, ygv, yel, yat, ytp, stk) 2 0) (hp : post V') : wpY_step post (ylim, ev, wa, rf, nI (t + 1), yend, yans, yrest, ybeg, yres, yused, ycalls, yver, ykept, yop, ybs, len, st, cps, old, bef, ywm, wcp, ecp, mcp, rcp, evl, yms, ysf, ycl, yam, yar, ygv, yel, yat, ytp, stk) := by
  unfold wpY_step
  refine nm_r (nI_pred t) ⟨ce_in ht, ce_in ht, nm_r (show 24 * ysf (nI t).toNatClampNeg + yat (nI t).toNatClampNeg = nI (24 * a + p) from by rw [ce_cl (by omega), hpos, hown, ce_mL24, nI_add]) ⟨ce_in (by omega), nm_r (show yop (nI (24 * a + p)).toNatClampNeg = nI k from by rw [ce_cl (by omega), hop]) ⟨ce_in ht, ce_in (by omega), nm_r (show 4 * ysf (nI t).toNatClampNeg + (ybs (nI (24 * a + p)).toNatClampNeg &&& 3) = nI (4 * a + c) from by rw [ce_cl (by omega), ce_cl (by omega), hown, hb, hc, ce_mL4, nI_add]) ?_⟩⟩⟩
  refine yw_cost hk ha hc4 hW ?_
  rw [ce_cl (t := t) (by omega), hel]
  have hC8 := (ce_cost_le k (bt wm (5 * a + c))).2
  exact ⟨ce_in ht, br_f (nI_ge hC (by omega)) (hE _ hp)⟩
theorem ys_low {post : SY → Prop} {V' : SY} {t a p k c L e : Nat} {b : Int32} (ht : t < 5) (ha : a < 6) (hown : ysf t = nI a) (hlen : len a = nI L) (hL : L ≤ 24) (hpos : yat t = nI p) (hpL : p < L) (hop : yop (24 * a + p) = nI k) (hk : k < 24) (hb : ybs (24 * a + p) = b) (hc : b &&& 3 = nI c) (hc4 : c < 4) (hel : yel t = nI e) (he : e ≤ 1000) (hW : ce_WR wm ywm) (hC : ce_cost k (bt wm (5 * a + c)) ≤ e) {h : Nat} (hh : ytp t = nI h) (hlo : h < ce_tkn k) (hE : ∀ P : SY → Prop, P V' → wpY_end P (ylim, ev, wa, rf, nI (t + 1), yend, yans, yrest, ybeg, yres, yused, ycalls, yver, ykept, yop, ybs, len, st, cps, old, bef, ywm, wcp, ecp, mcp, rcp, evl, yms, ysf, ycl, yam, yar, ygv, upd yel t (nI (e - ce_cost k (bt wm (5 * a + c)))), yat, ytp, stk) 3 0) (hp : post V') : wpY_step post (ylim, ev, wa, rf, nI (t + 1), yend, yans, yrest, ybeg, yres, yused, ycalls, yver, ykept, yop, ybs, len, st, cps, old, bef, ywm, wcp, ecp, mcp, rcp, evl, yms, ysf, ycl, yam, yar, ygv, yel, yat, ytp, stk) := by
  unfold wpY_step
  refine nm_r (nI_pred t) ⟨ce_in ht, ce_in ht, nm_r (show 24 * ysf (nI t).toNatClampNeg + yat (nI t).toNatClampNeg = nI (24 * a + p) from by rw [ce_cl (by omega), hpos, hown, ce_mL24, nI_add]) ⟨ce_in (by omega), nm_r (show yop (nI (24 * a + p)).toNatClampNeg = nI k from by rw [ce_cl (by omega), hop]) ⟨ce_in ht, ce_in (by omega), nm_r (show 4 * ysf (nI t).toNatClampNeg + (ybs (nI (24 * a + p)).toNatClampNeg &&& 3) = nI (4 * a + c) from by rw [ce_cl (by omega), ce_cl (by omega), hown, hb, hc, ce_mL4, nI_add]) ?_⟩⟩⟩
  refine yw_cost hk ha hc4 hW ?_
  rw [ce_cl (t := t) (by omega), hel]
  have hC8 := (ce_cost_le k (bt wm (5 * a + c))).2
  refine ⟨ce_in ht, br_t (nI_le hC (by omega)) ⟨ce_in ht, ce_in ht, nm_r (congrArg (upd yel t) (pk_sub hC)) ⟨ce_in ht, yw_tkn hk ?_⟩⟩⟩
  have hk3 := ce_tkn_le k
  have hk2 := ce_add_le k
  rw [hh]
  exact br_t (nI_lt hlo (by omega)) (ys_126 ht (by omega) hE hp)
theorem ys_hig {post : SY → Prop} {V' : SY} {t a p k c L e : Nat} {b : Int32} (ht : t < 5) (ha : a < 6) (hown : ysf t = nI a) (hlen : len a = nI L) (hL : L ≤ 24) (hpos : yat t = nI p) (hpL : p < L) (hop : yop (24 * a + p) = nI k) (hk : k < 24) (hb : ybs (24 * a + p) = b) (hc : b &&& 3 = nI c) (hc4 : c < 4) (hel : yel t = nI e) (he : e ≤ 1000) (hW : ce_WR wm ywm) (hC : ce_cost k (bt wm (5 * a + c)) ≤ e) {h0 : Nat} (hh : ytp t = nI (h0 + ce_tkn k)) (hh6 : h0 + ce_tkn k ≤ 6) (hhi : 6 < h0 + ce_add k) (hE : ∀ P : SY → Prop, P V' → wpY_end P (ylim, ev, wa, rf, nI (t + 1), yend, yans, yrest, ybeg, yres, yused, ycalls, yver, ykept, yop, ybs, len, st, cps, old, bef, ywm, wcp, ecp, mcp, rcp, evl, yms, ysf, ycl, yam, yar, ygv, upd yel t (nI (e - ce_cost k (bt wm (5 * a + c)))), yat, ytp, stk) 3 0) (hp : post V') : wpY_step post (ylim, ev, wa, rf, nI (t + 1), yend, yans, yrest, ybeg, yres, yused, ycalls, yver, ykept, yop, ybs, len, st, cps, old, bef, ywm, wcp, ecp, mcp, rcp, evl, yms, ysf, ycl, yam, yar, ygv, yel, yat, ytp, stk) := by
  unfold wpY_step
  refine nm_r (nI_pred t) ⟨ce_in ht, ce_in ht, nm_r (show 24 * ysf (nI t).toNatClampNeg + yat (nI t).toNatClampNeg = nI (24 * a + p) from by rw [ce_cl (by omega), hpos, hown, ce_mL24, nI_add]) ⟨ce_in (by omega), nm_r (show yop (nI (24 * a + p)).toNatClampNeg = nI k from by rw [ce_cl (by omega), hop]) ⟨ce_in ht, ce_in (by omega), nm_r (show 4 * ysf (nI t).toNatClampNeg + (ybs (nI (24 * a + p)).toNatClampNeg &&& 3) = nI (4 * a + c) from by rw [ce_cl (by omega), ce_cl (by omega), hown, hb, hc, ce_mL4, nI_add]) ?_⟩⟩⟩
  refine yw_cost hk ha hc4 hW ?_
  rw [ce_cl (t := t) (by omega), hel]
  have hC8 := (ce_cost_le k (bt wm (5 * a + c))).2
  refine ⟨ce_in ht, br_t (nI_le hC (by omega)) ⟨ce_in ht, ce_in ht, nm_r (congrArg (upd yel t) (pk_sub hC)) ⟨ce_in ht, yw_tkn hk ?_⟩⟩⟩
  have hk3 := ce_tkn_le k
  have hk2 := ce_add_le k
  rw [hh]
  refine br_f (nI_nlt (by omega) (by omega)) ⟨ce_in ht, yw_tkn hk (yw_add hk ?_)⟩
  rw [show nI (h0 + ce_tkn k) - nI (ce_tkn k) + nI (ce_add k) = nI (h0 + ce_add k) from by rw [pk_sub (by omega), nI_add]; exact congrArg nI (by omega)]
  exact br_t (nI_lt (a := 6) hhi (by omega)) (ys_126 ht (by omega) hE hp)
theorem ys_jmp {post : SY → Prop} {V' : SY} {t a p k c L e : Nat} {b : Int32} (ht : t < 5) (ha : a < 6) (hown : ysf t = nI a) (hlen : len a = nI L) (hL : L ≤ 24) (hpos : yat t = nI p) (hpL : p < L) (hop : yop (24 * a + p) = nI k) (hk : k < 24) (hb : ybs (24 * a + p) = b) (hc : b &&& 3 = nI c) (hc4 : c < 4) (hel : yel t = nI e) (he : e ≤ 1000) (hW : ce_WR wm ywm) (hC : ce_cost k (bt wm (5 * a + c)) ≤ e) {h0 : Nat} (hh : ytp t = nI (h0 + ce_tkn k)) (hh6 : h0 + ce_tkn k ≤ 6) (h6 : h0 + ce_add k ≤ 6) (n19 : k ≠ 19) (n20 : k ≠ 20) (hn : ce_ny k b p (stk (6 * t + h0)) < 0 ∨ ¬ ce_ny k b p (stk (6 * t + h0)) < nI L) (hE : ∀ P : SY → Prop, P V' → wpY_end P (ylim, ev, wa, rf, nI (t + 1), yend, yans, yrest, ybeg, yres, yused, ycalls, yver, ykept, yop, ybs, len, st, cps, old, bef, ywm, wcp, ecp, mcp, rcp, evl, yms, ysf, ycl, yam, yar, ygv, upd yel t (nI (e - ce_cost k (bt wm (5 * a + c)))), yat, ytp, stk) 3 0) (hp : post V') : wpY_step post (ylim, ev, wa, rf, nI (t + 1), yend, yans, yrest, ybeg, yres, yused, ycalls, yver, ykept, yop, ybs, len, st, cps, old, bef, ywm, wcp, ecp, mcp, rcp, evl, yms, ysf, ycl, yam, yar, ygv, yel, yat, ytp, stk) := by
  unfold wpY_step
  refine nm_r (nI_pred t) ⟨ce_in ht, ce_in ht, nm_r (show 24 * ysf (nI t).toNatClampNeg + yat (nI t).toNatClampNeg = nI (24 * a + p) from by rw [ce_cl (by omega), hpos, hown, ce_mL24, nI_add]) ⟨ce_in (by omega), nm_r (show yop (nI (24 * a + p)).toNatClampNeg = nI k from by rw [ce_cl (by omega), hop]) ⟨ce_in ht, ce_in (by omega), nm_r (show 4 * ysf (nI t).toNatClampNeg + (ybs (nI (24 * a + p)).toNatClampNeg &&& 3) = nI (4 * a + c) from by rw [ce_cl (by omega), ce_cl (by omega), hown, hb, hc, ce_mL4, nI_add]) ?_⟩⟩⟩
  refine yw_cost hk ha hc4 hW ?_
  rw [ce_cl (t := t) (by omega), hel]
  have hC8 := (ce_cost_le k (bt wm (5 * a + c))).2
  refine ⟨ce_in ht, br_t (nI_le hC (by omega)) ⟨ce_in ht, ce_in ht, nm_r (congrArg (upd yel t) (pk_sub hC)) ⟨ce_in ht, yw_tkn hk ?_⟩⟩⟩
  have hk3 := ce_tkn_le k
  have hk2 := ce_add_le k
  rw [hh]
  refine br_f (nI_nlt (by omega) (by omega)) ⟨ce_in ht, yw_tkn hk (yw_add hk ?_)⟩
  rw [show nI (h0 + ce_tkn k) - nI (ce_tkn k) + nI (ce_add k) = nI (h0 + ce_add k) from by rw [pk_sub (by omega), nI_add]; exact congrArg nI (by omega)]
  refine br_f (nI_nlt (a := 6) h6 (by decide)) (ys_127 ht (by omega) hpos hb hk hh hh6 ?_)
  unfold wY_step_185
  refine pk_eq k 19 (fun q => absurd q n19) (fun _ => pk_eq k 20 (fun q => absurd q n20) (fun _ => ?_))
  unfold wY_step_202 wY_step_235
  rw [ce_cl (t := t) (by omega), hown, ce_cl (t := a) (by omega), hlen]
  exact br_f (by decide) (br_t rfl (br_c (fun _ => hE _ hp) (fun n0 => ⟨ce_in ht, ce_in (by omega), br_f (hn.resolve_left n0) (hE _ hp)⟩)))
theorem ys_sim {post : SY → Prop} {V' : SY} {t a p k c L e : Nat} {b : Int32} (ht : t < 5) (ha : a < 6) (hown : ysf t = nI a) (hlen : len a = nI L) (hL : L ≤ 24) (hpos : yat t = nI p) (hpL : p < L) (hop : yop (24 * a + p) = nI k) (hk : k < 24) (hb : ybs (24 * a + p) = b) (hc : b &&& 3 = nI c) (hc4 : c < 4) (hel : yel t = nI e) (he : e ≤ 1000) (hW : ce_WR wm ywm) (hC : ce_cost k (bt wm (5 * a + c)) ≤ e) {h0 : Nat} (hh : ytp t = nI (h0 + ce_tkn k)) (hh6 : h0 + ce_tkn k ≤ 6) (h6 : h0 + ce_add k ≤ 6) (n19 : k ≠ 19) (n20 : k ≠ 20) {p' : Nat} (hn : ce_ny k b p (stk (6 * t + h0)) = nI p') (hp' : p' < L) (h8 : k < 8) (hE : ∀ P : SY → Prop, P V' → wpY_simple P (ylim, ev, wa, rf, nI (t + 1), yend, yans, yrest, ybeg, yres, yused, ycalls, yver, ykept, yop, ybs, len, st, cps, old, bef, ywm, wcp, ecp, mcp, rcp, evl, yms, ysf, ycl, yam, yar, ygv, upd yel t (nI (e - ce_cost k (bt wm (5 * a + c)))), upd yat t (nI p'), ytp, stk) (nI k) b (nI (4 * a + c))) (hp : post V') : wpY_step post (ylim, ev, wa, rf, nI (t + 1), yend, yans, yrest, ybeg, yres, yused, ycalls, yver, ykept, yop, ybs, len, st, cps, old, bef, ywm, wcp, ecp, mcp, rcp, evl, yms, ysf, ycl, yam, yar, ygv, yel, yat, ytp, stk) := by
  unfold wpY_step
  refine nm_r (nI_pred t) ⟨ce_in ht, ce_in ht, nm_r (show 24 * ysf (nI t).toNatClampNeg + yat (nI t).toNatClampNeg = nI (24 * a + p) from by rw [ce_cl (by omega), hpos, hown, ce_mL24, nI_add]) ⟨ce_in (by omega), nm_r (show yop (nI (24 * a + p)).toNatClampNeg = nI k from by rw [ce_cl (by omega), hop]) ⟨ce_in ht, ce_in (by omega), nm_r (show 4 * ysf (nI t).toNatClampNeg + (ybs (nI (24 * a + p)).toNatClampNeg &&& 3) = nI (4 * a + c) from by rw [ce_cl (by omega), ce_cl (by omega), hown, hb, hc, ce_mL4, nI_add]) ?_⟩⟩⟩
  refine yw_cost hk ha hc4 hW ?_
  rw [ce_cl (t := t) (by omega), hel]
  have hC8 := (ce_cost_le k (bt wm (5 * a + c))).2
  refine ⟨ce_in ht, br_t (nI_le hC (by omega)) ⟨ce_in ht, ce_in ht, nm_r (congrArg (upd yel t) (pk_sub hC)) ⟨ce_in ht, yw_tkn hk ?_⟩⟩⟩
  have hk3 := ce_tkn_le k
  have hk2 := ce_add_le k
  rw [hh]
  refine br_f (nI_nlt (by omega) (by omega)) ⟨ce_in ht, yw_tkn hk (yw_add hk ?_)⟩
  rw [show nI (h0 + ce_tkn k) - nI (ce_tkn k) + nI (ce_add k) = nI (h0 + ce_add k) from by rw [pk_sub (by omega), nI_add]; exact congrArg nI (by omega)]
  refine br_f (nI_nlt (a := 6) h6 (by decide)) (ys_127 ht (by omega) hpos hb hk hh hh6 ?_)
  unfold wY_step_185
  refine pk_eq k 19 (fun q => absurd q n19) (fun _ => pk_eq k 20 (fun q => absurd q n20) (fun _ => ?_))
  unfold wY_step_202
  rw [ce_cl (t := t) (by omega), hown, ce_cl (t := a) (by omega), hlen, hn]
  refine br_f (by decide) (br_t rfl (br_f (nI_pos (by omega)) ⟨ce_in ht, ce_in (by omega), br_t (nI_lt hp' (by omega)) ?_⟩))
  unfold wY_step_242
  rw [ce_cl (t := t) (by omega)]
  refine ⟨ce_in ht, nm_e (br_t rfl ?_)⟩
  rw [ce_cl (t := 24 * a + p) (by omega), hb]
  exact br_f (nI_ge (b := 8) h8 (by decide)) ⟨ce_in (by omega), hE _ hp⟩
theorem ys_stk {post : SY → Prop} {V' : SY} {t a p k c L e : Nat} {b : Int32} (ht : t < 5) (ha : a < 6) (hown : ysf t = nI a) (hlen : len a = nI L) (hL : L ≤ 24) (hpos : yat t = nI p) (hpL : p < L) (hop : yop (24 * a + p) = nI k) (hk : k < 24) (hb : ybs (24 * a + p) = b) (hc : b &&& 3 = nI c) (hc4 : c < 4) (hel : yel t = nI e) (he : e ≤ 1000) (hW : ce_WR wm ywm) (hC : ce_cost k (bt wm (5 * a + c)) ≤ e) {h0 : Nat} (hh : ytp t = nI (h0 + ce_tkn k)) (hh6 : h0 + ce_tkn k ≤ 6) (h6 : h0 + ce_add k ≤ 6) (n19 : k ≠ 19) (n20 : k ≠ 20) {p' : Nat} (hn : ce_ny k b p (stk (6 * t + h0)) = nI p') (hp' : p' < L) (h8 : 8 ≤ k) (h18 : k < 18) (hE : ∀ P : SY → Prop, P V' → wpY_onStack P (ylim, ev, wa, rf, nI (t + 1), yend, yans, yrest, ybeg, yres, yused, ycalls, yver, ykept, yop, ybs, len, st, cps, old, bef, ywm, wcp, ecp, mcp, rcp, evl, yms, ysf, ycl, yam, yar, ygv, upd yel t (nI (e - ce_cost k (bt wm (5 * a + c)))), upd yat t (nI p'), ytp, stk) (nI k)) (hp : post V') : wpY_step post (ylim, ev, wa, rf, nI (t + 1), yend, yans, yrest, ybeg, yres, yused, ycalls, yver, ykept, yop, ybs, len, st, cps, old, bef, ywm, wcp, ecp, mcp, rcp, evl, yms, ysf, ycl, yam, yar, ygv, yel, yat, ytp, stk) := by
  unfold wpY_step
  refine nm_r (nI_pred t) ⟨ce_in ht, ce_in ht, nm_r (show 24 * ysf (nI t).toNatClampNeg + yat (nI t).toNatClampNeg = nI (24 * a + p) from by rw [ce_cl (by omega), hpos, hown, ce_mL24, nI_add]) ⟨ce_in (by omega), nm_r (show yop (nI (24 * a + p)).toNatClampNeg = nI k from by rw [ce_cl (by omega), hop]) ⟨ce_in ht, ce_in (by omega), nm_r (show 4 * ysf (nI t).toNatClampNeg + (ybs (nI (24 * a + p)).toNatClampNeg &&& 3) = nI (4 * a + c) from by rw [ce_cl (by omega), ce_cl (by omega), hown, hb, hc, ce_mL4, nI_add]) ?_⟩⟩⟩
  refine yw_cost hk ha hc4 hW ?_
  rw [ce_cl (t := t) (by omega), hel]
  have hC8 := (ce_cost_le k (bt wm (5 * a + c))).2
  refine ⟨ce_in ht, br_t (nI_le hC (by omega)) ⟨ce_in ht, ce_in ht, nm_r (congrArg (upd yel t) (pk_sub hC)) ⟨ce_in ht, yw_tkn hk ?_⟩⟩⟩
  have hk3 := ce_tkn_le k
  have hk2 := ce_add_le k
  rw [hh]
  refine br_f (nI_nlt (by omega) (by omega)) ⟨ce_in ht, yw_tkn hk (yw_add hk ?_)⟩
  rw [show nI (h0 + ce_tkn k) - nI (ce_tkn k) + nI (ce_add k) = nI (h0 + ce_add k) from by rw [pk_sub (by omega), nI_add]; exact congrArg nI (by omega)]
  refine br_f (nI_nlt (a := 6) h6 (by decide)) (ys_127 ht (by omega) hpos hb hk hh hh6 ?_)
  unfold wY_step_185
  refine pk_eq k 19 (fun q => absurd q n19) (fun _ => pk_eq k 20 (fun q => absurd q n20) (fun _ => ?_))
  unfold wY_step_202
  rw [ce_cl (t := t) (by omega), hown, ce_cl (t := a) (by omega), hlen, hn]
  refine br_f (by decide) (br_t rfl (br_f (nI_pos (by omega)) ⟨ce_in ht, ce_in (by omega), br_t (nI_lt hp' (by omega)) ?_⟩))
  unfold wY_step_242
  rw [ce_cl (t := t) (by omega)]
  refine ⟨ce_in ht, nm_e (br_t rfl ?_)⟩
  exact br_t (nI_le (a := 8) h8 (by omega)) (br_f (nI_ge (b := 18) h18 (by decide)) (hE _ hp))
theorem ys_oth {post : SY → Prop} {V' : SY} {t a p k c L e : Nat} {b : Int32} (ht : t < 5) (ha : a < 6) (hown : ysf t = nI a) (hlen : len a = nI L) (hL : L ≤ 24) (hpos : yat t = nI p) (hpL : p < L) (hop : yop (24 * a + p) = nI k) (hk : k < 24) (hb : ybs (24 * a + p) = b) (hc : b &&& 3 = nI c) (hc4 : c < 4) (hel : yel t = nI e) (he : e ≤ 1000) (hW : ce_WR wm ywm) (hC : ce_cost k (bt wm (5 * a + c)) ≤ e) {h0 : Nat} (hh : ytp t = nI (h0 + ce_tkn k)) (hh6 : h0 + ce_tkn k ≤ 6) (h6 : h0 + ce_add k ≤ 6) (n19 : k ≠ 19) (n20 : k ≠ 20) {p' : Nat} (hn : ce_ny k b p (stk (6 * t + h0)) = nI p') (hp' : p' < L) (h18 : 18 ≤ k) (hE : ∀ P : SY → Prop, P V' → wpY_other P (ylim, ev, wa, rf, nI (t + 1), yend, yans, yrest, ybeg, yres, yused, ycalls, yver, ykept, yop, ybs, len, st, cps, old, bef, ywm, wcp, ecp, mcp, rcp, evl, yms, ysf, ycl, yam, yar, ygv, upd yel t (nI (e - ce_cost k (bt wm (5 * a + c)))), upd yat t (nI p'), ytp, stk) (nI k) b) (hp : post V') : wpY_step post (ylim, ev, wa, rf, nI (t + 1), yend, yans, yrest, ybeg, yres, yused, ycalls, yver, ykept, yop, ybs, len, st, cps, old, bef, ywm, wcp, ecp, mcp, rcp, evl, yms, ysf, ycl, yam, yar, ygv, yel, yat, ytp, stk) := by
  unfold wpY_step
  refine nm_r (nI_pred t) ⟨ce_in ht, ce_in ht, nm_r (show 24 * ysf (nI t).toNatClampNeg + yat (nI t).toNatClampNeg = nI (24 * a + p) from by rw [ce_cl (by omega), hpos, hown, ce_mL24, nI_add]) ⟨ce_in (by omega), nm_r (show yop (nI (24 * a + p)).toNatClampNeg = nI k from by rw [ce_cl (by omega), hop]) ⟨ce_in ht, ce_in (by omega), nm_r (show 4 * ysf (nI t).toNatClampNeg + (ybs (nI (24 * a + p)).toNatClampNeg &&& 3) = nI (4 * a + c) from by rw [ce_cl (by omega), ce_cl (by omega), hown, hb, hc, ce_mL4, nI_add]) ?_⟩⟩⟩
  refine yw_cost hk ha hc4 hW ?_
  rw [ce_cl (t := t) (by omega), hel]
  have hC8 := (ce_cost_le k (bt wm (5 * a + c))).2
  refine ⟨ce_in ht, br_t (nI_le hC (by omega)) ⟨ce_in ht, ce_in ht, nm_r (congrArg (upd yel t) (pk_sub hC)) ⟨ce_in ht, yw_tkn hk ?_⟩⟩⟩
  have hk3 := ce_tkn_le k
  have hk2 := ce_add_le k
  rw [hh]
  refine br_f (nI_nlt (by omega) (by omega)) ⟨ce_in ht, yw_tkn hk (yw_add hk ?_)⟩
  rw [show nI (h0 + ce_tkn k) - nI (ce_tkn k) + nI (ce_add k) = nI (h0 + ce_add k) from by rw [pk_sub (by omega), nI_add]; exact congrArg nI (by omega)]
  refine br_f (nI_nlt (a := 6) h6 (by decide)) (ys_127 ht (by omega) hpos hb hk hh hh6 ?_)
  unfold wY_step_185
  refine pk_eq k 19 (fun q => absurd q n19) (fun _ => pk_eq k 20 (fun q => absurd q n20) (fun _ => ?_))
  unfold wY_step_202
  rw [ce_cl (t := t) (by omega), hown, ce_cl (t := a) (by omega), hlen, hn]
  refine br_f (by decide) (br_t rfl (br_f (nI_pos (by omega)) ⟨ce_in ht, ce_in (by omega), br_t (nI_lt hp' (by omega)) ?_⟩))
  unfold wY_step_242
  rw [ce_cl (t := t) (by omega)]
  refine ⟨ce_in ht, nm_e (br_t rfl ?_)⟩
  rw [ce_cl (t := 24 * a + p) (by omega), hb]
  exact br_t (nI_le (a := 8) (by omega) (by omega)) (br_t (nI_le (a := 18) h18 (by omega)) ⟨ce_in (by omega), hE _ hp⟩)
theorem ys_ret {post : SY → Prop} {V' : SY} {t a p k c L e : Nat} {b : Int32} (ht : t < 5) (ha : a < 6) (hown : ysf t = nI a) (hlen : len a = nI L) (hL : L ≤ 24) (hpos : yat t = nI p) (hpL : p < L) (hop : yop (24 * a + p) = nI k) (hk : k < 24) (hb : ybs (24 * a + p) = b) (hc : b &&& 3 = nI c) (hc4 : c < 4) (hel : yel t = nI e) (he : e ≤ 1000) (hW : ce_WR wm ywm) (hC : ce_cost k (bt wm (5 * a + c)) ≤ e) {h0 : Nat} (hh : ytp t = nI (h0 + ce_tkn k)) (hh6 : h0 + ce_tkn k ≤ 6) (h6 : h0 + ce_add k ≤ 6) (hkk : k = 19) (hE : ∀ P : SY → Prop, P V' → wpY_end P (ylim, ev, wa, rf, nI (t + 1), yend, yans, yrest, ybeg, yres, yused, ycalls, yver, ykept, yop, ybs, len, st, cps, old, bef, ywm, wcp, ecp, mcp, rcp, evl, yms, ysf, ycl, yam, yar, ygv, upd yel t (nI (e - ce_cost k (bt wm (5 * a + c)))), upd yat t (ce_ny k b p (stk (6 * t + h0))), upd ytp t (nI h0), stk) 0 (stk (6 * t + h0))) (hp : post V') : wpY_step post (ylim, ev, wa, rf, nI (t + 1), yend, yans, yrest, ybeg, yres, yused, ycalls, yver, ykept, yop, ybs, len, st, cps, old, bef, ywm, wcp, ecp, mcp, rcp, evl, yms, ysf, ycl, yam, yar, ygv, yel, yat, ytp, stk) := by
  unfold wpY_step
  refine nm_r (nI_pred t) ⟨ce_in ht, ce_in ht, nm_r (show 24 * ysf (nI t).toNatClampNeg + yat (nI t).toNatClampNeg = nI (24 * a + p) from by rw [ce_cl (by omega), hpos, hown, ce_mL24, nI_add]) ⟨ce_in (by omega), nm_r (show yop (nI (24 * a + p)).toNatClampNeg = nI k from by rw [ce_cl (by omega), hop]) ⟨ce_in ht, ce_in (by omega), nm_r (show 4 * ysf (nI t).toNatClampNeg + (ybs (nI (24 * a + p)).toNatClampNeg &&& 3) = nI (4 * a + c) from by rw [ce_cl (by omega), ce_cl (by omega), hown, hb, hc, ce_mL4, nI_add]) ?_⟩⟩⟩
  refine yw_cost hk ha hc4 hW ?_
  rw [ce_cl (t := t) (by omega), hel]
  have hC8 := (ce_cost_le k (bt wm (5 * a + c))).2
  refine ⟨ce_in ht, br_t (nI_le hC (by omega)) ⟨ce_in ht, ce_in ht, nm_r (congrArg (upd yel t) (pk_sub hC)) ⟨ce_in ht, yw_tkn hk ?_⟩⟩⟩
  have hk3 := ce_tkn_le k
  have hk2 := ce_add_le k
  rw [hh]
  refine br_f (nI_nlt (by omega) (by omega)) ⟨ce_in ht, yw_tkn hk (yw_add hk ?_)⟩
  rw [show nI (h0 + ce_tkn k) - nI (ce_tkn k) + nI (ce_add k) = nI (h0 + ce_add k) from by rw [pk_sub (by omega), nI_add]; exact congrArg nI (by omega)]
  refine br_f (nI_nlt (a := 6) h6 (by decide)) (ys_127 ht (by omega) hpos hb hk hh hh6 ?_)
  subst hkk
  unfold wY_step_185 wY_step_197
  refine br_t rfl ?_
  unfold wY_step_202
  refine br_f (by decide) (br_f (by decide) ?_)
  unfold wY_step_242
  rw [ce_cl (t := t) (by omega)]
  refine ⟨ce_in ht, nm_e (br_f (by decide) (yw_pop ht hh (by have : ce_tkn 19 = 1 := rfl; omega) (br_t rfl ?_)))⟩
  unfold wY_step_273
  exact hE _ hp
theorem ys_rvt {post : SY → Prop} {V' : SY} {t a p k c L e : Nat} {b : Int32} (ht : t < 5) (ha : a < 6) (hown : ysf t = nI a) (hlen : len a = nI L) (hL : L ≤ 24) (hpos : yat t = nI p) (hpL : p < L) (hop : yop (24 * a + p) = nI k) (hk : k < 24) (hb : ybs (24 * a + p) = b) (hc : b &&& 3 = nI c) (hc4 : c < 4) (hel : yel t = nI e) (he : e ≤ 1000) (hW : ce_WR wm ywm) (hC : ce_cost k (bt wm (5 * a + c)) ≤ e) {h0 : Nat} (hh : ytp t = nI (h0 + ce_tkn k)) (hh6 : h0 + ce_tkn k ≤ 6) (h6 : h0 + ce_add k ≤ 6) (hkk : k = 20) (hE : ∀ P : SY → Prop, P V' → wpY_end P (ylim, ev, wa, rf, nI (t + 1), yend, yans, yrest, ybeg, yres, yused, ycalls, yver, ykept, yop, ybs, len, st, cps, old, bef, ywm, wcp, ecp, mcp, rcp, evl, yms, ysf, ycl, yam, yar, ygv, upd yel t (nI (e - ce_cost k (bt wm (5 * a + c)))), upd yat t (ce_ny k b p (stk (6 * t + h0))), upd ytp t (nI h0), stk) 1 (stk (6 * t + h0))) (hp : post V') : wpY_step post (ylim, ev, wa, rf, nI (t + 1), yend, yans, yrest, ybeg, yres, yused, ycalls, yver, ykept, yop, ybs, len, st, cps, old, bef, ywm, wcp, ecp, mcp, rcp, evl, yms, ysf, ycl, yam, yar, ygv, yel, yat, ytp, stk) := by
  unfold wpY_step
  refine nm_r (nI_pred t) ⟨ce_in ht, ce_in ht, nm_r (show 24 * ysf (nI t).toNatClampNeg + yat (nI t).toNatClampNeg = nI (24 * a + p) from by rw [ce_cl (by omega), hpos, hown, ce_mL24, nI_add]) ⟨ce_in (by omega), nm_r (show yop (nI (24 * a + p)).toNatClampNeg = nI k from by rw [ce_cl (by omega), hop]) ⟨ce_in ht, ce_in (by omega), nm_r (show 4 * ysf (nI t).toNatClampNeg + (ybs (nI (24 * a + p)).toNatClampNeg &&& 3) = nI (4 * a + c) from by rw [ce_cl (by omega), ce_cl (by omega), hown, hb, hc, ce_mL4, nI_add]) ?_⟩⟩⟩
  refine yw_cost hk ha hc4 hW ?_
  rw [ce_cl (t := t) (by omega), hel]
  have hC8 := (ce_cost_le k (bt wm (5 * a + c))).2
  refine ⟨ce_in ht, br_t (nI_le hC (by omega)) ⟨ce_in ht, ce_in ht, nm_r (congrArg (upd yel t) (pk_sub hC)) ⟨ce_in ht, yw_tkn hk ?_⟩⟩⟩
  have hk3 := ce_tkn_le k
  have hk2 := ce_add_le k
  rw [hh]
  refine br_f (nI_nlt (by omega) (by omega)) ⟨ce_in ht, yw_tkn hk (yw_add hk ?_)⟩
  rw [show nI (h0 + ce_tkn k) - nI (ce_tkn k) + nI (ce_add k) = nI (h0 + ce_add k) from by rw [pk_sub (by omega), nI_add]; exact congrArg nI (by omega)]
  refine br_f (nI_nlt (a := 6) h6 (by decide)) (ys_127 ht (by omega) hpos hb hk hh hh6 ?_)
  subst hkk
  unfold wY_step_185 wY_step_197
  refine br_f (by decide) (br_t rfl ?_)
  unfold wY_step_202
  refine br_f (by decide) (br_f (by decide) ?_)
  unfold wY_step_242
  rw [ce_cl (t := t) (by omega)]
  refine ⟨ce_in ht, nm_e (br_f (by decide) (yw_pop ht hh (by have : ce_tkn 20 = 1 := rfl; omega) (br_f (by decide) ?_)))⟩
  unfold wY_step_273
  exact hE _ hp
end
end
section
section
variable {xlim xps xvn xkc ev wa wm rf dp ea er lr lu lc ylim yend yans yrest ybeg yres yused ycalls yver ykept : Int32} {xop xnum len st vers evl xms own clr amt arg eg el pos hgt stk sst sev sw swm srf yop ybs cps old bef ywm wcp ecp mcp rcp yms ysf ycl yam yar ygv yel yat ytp : Nat → Int32}
def ce_has (st : Nat → Int32) (x : Int32) : Int32 := if x < 0 then 0 else if nI 6 ≤ x then 0 else st (5 * x.toNatClampNeg + 4)
def ce_rf (rf x v : Int32) : Int32 := if x = 0 ∧ ¬ v = 0 then rf + 4 else rf
def ce_cmb (k : Nat) (x y : Int32) : Int32 := if k = 8 then x + y else if k = 9 then x - y else if k = 10 then x * y else if k = 11 then (if y ≤ x then 0 else 1) else (if x = y then 1 else 0)
def ce_m4 (f : Nat → Int32) (W : Nat) (x y z s : Int32) : Nat → Int32 := upd (upd (upd (upd f (4 * W) x) (4 * W + 1) y) (4 * W + 2) z) (4 * W + 3) s
def ce_e3 (f : Nat → Int32) (E : Nat) (x y z : Int32) : Nat → Int32 := upd (upd (upd f (3 * E) x) (3 * E + 1) y) (3 * E + 2) z
theorem xx_0 {post : SX → Prop} {t h0 : Nat} {b : Int32} (ht : t < 5) (hh : hgt t = nI h0) (h6 : h0 < 6) (hp : post (xlim, xps, xvn, xkc, ev, wa, wm, rf, nI (t + 1), ea, er, lr, lu, lc, xop, xnum, len, st, vers, evl, xms, own, clr, amt, arg, eg, el, pos, upd hgt t (nI (h0 + 1)), upd stk (6 * t + h0) (b), sst, sev, sw, swm, srf)) : wpX_execute post (xlim, xps, xvn, xkc, ev, wa, wm, rf, nI (t + 1), ea, er, lr, lu, lc, xop, xnum, len, st, vers, evl, xms, own, clr, amt, arg, eg, el, pos, hgt, stk, sst, sev, sw, swm, srf) (nI 0) b (nI (6 * t + h0)) := by
  unfold wpX_execute
  refine br_t (by decide) ?_
  unfold wX_execute_208
  unfold wpX_lookUp
  refine nm_r (nI_pred t) ?_
  refine br_t (by decide) ?_
  exact xw_push ht hh h6 hp
theorem xx_1 {post : SX → Prop} {t h0 : Nat} {b : Int32} (ht : t < 5) (hh : hgt t = nI h0) (h6 : h0 < 6) (hp : post (xlim, xps, xvn, xkc, ev, wa, wm, rf, nI (t + 1), ea, er, lr, lu, lc, xop, xnum, len, st, vers, evl, xms, own, clr, amt, arg, eg, el, pos, upd hgt t (nI (h0 + 1)), upd stk (6 * t + h0) (arg t), sst, sev, sw, swm, srf)) : wpX_execute post (xlim, xps, xvn, xkc, ev, wa, wm, rf, nI (t + 1), ea, er, lr, lu, lc, xop, xnum, len, st, vers, evl, xms, own, clr, amt, arg, eg, el, pos, hgt, stk, sst, sev, sw, swm, srf) (nI 1) b (nI (6 * t + h0)) := by
  unfold wpX_execute
  refine br_t (by decide) ?_
  unfold wX_execute_208
  unfold wpX_lookUp
  refine nm_r (nI_pred t) ?_
  refine br_f (by decide) (br_f (by decide) (br_t rfl ?_))
  refine ⟨ce_in ht, ?_⟩
  rw [ce_cl (by omega)]
  exact xw_push ht hh h6 hp
theorem xx_2 {post : SX → Prop} {t h0 : Nat} {b : Int32} (ht : t < 5) (hh : hgt t = nI h0) (h6 : h0 < 6) (hp : post (xlim, xps, xvn, xkc, ev, wa, wm, rf, nI (t + 1), ea, er, lr, lu, lc, xop, xnum, len, st, vers, evl, xms, own, clr, amt, arg, eg, el, pos, upd hgt t (nI (h0 + 1)), upd stk (6 * t + h0) (clr t), sst, sev, sw, swm, srf)) : wpX_execute post (xlim, xps, xvn, xkc, ev, wa, wm, rf, nI (t + 1), ea, er, lr, lu, lc, xop, xnum, len, st, vers, evl, xms, own, clr, amt, arg, eg, el, pos, hgt, stk, sst, sev, sw, swm, srf) (nI 2) b (nI (6 * t + h0)) := by
  unfold wpX_execute
  refine br_t (by decide) ?_
  unfold wX_execute_208
  unfold wpX_lookUp
  refine nm_r (nI_pred t) ?_
  refine br_f (by decide) (br_f (by decide) (br_f (by decide) (br_t rfl ?_)))
  refine ⟨ce_in ht, ?_⟩
  rw [ce_cl (by omega)]
  exact xw_push ht hh h6 hp
theorem xx_3 {post : SX → Prop} {t h0 : Nat} {b : Int32} (ht : t < 5) (hh : hgt t = nI h0) (h6 : h0 < 6) (hp : post (xlim, xps, xvn, xkc, ev, wa, wm, rf, nI (t + 1), ea, er, lr, lu, lc, xop, xnum, len, st, vers, evl, xms, own, clr, amt, arg, eg, el, pos, upd hgt t (nI (h0 + 1)), upd stk (6 * t + h0) (own t), sst, sev, sw, swm, srf)) : wpX_execute post (xlim, xps, xvn, xkc, ev, wa, wm, rf, nI (t + 1), ea, er, lr, lu, lc, xop, xnum, len, st, vers, evl, xms, own, clr, amt, arg, eg, el, pos, hgt, stk, sst, sev, sw, swm, srf) (nI 3) b (nI (6 * t + h0)) := by
  unfold wpX_execute
  refine br_t (by decide) ?_
  unfold wX_execute_208
  unfold wpX_lookUp
  refine nm_r (nI_pred t) ?_
  refine br_f (by decide) (br_f (by decide) (br_f (by decide) (br_f (by decide) (br_t rfl ?_))))
  refine ⟨ce_in ht, ?_⟩
  rw [ce_cl (by omega)]
  exact xw_push ht hh h6 hp
theorem xx_4 {post : SX → Prop} {t h0 : Nat} {b : Int32} (ht : t < 5) (hh : hgt t = nI h0) (h6 : h0 < 6) (hp : post (xlim, xps, xvn, xkc, ev, wa, wm, rf, nI (t + 1), ea, er, lr, lu, lc, xop, xnum, len, st, vers, evl, xms, own, clr, amt, arg, eg, el, pos, upd hgt t (nI (h0 + 1)), upd stk (6 * t + h0) (amt t), sst, sev, sw, swm, srf)) : wpX_execute post (xlim, xps, xvn, xkc, ev, wa, wm, rf, nI (t + 1), ea, er, lr, lu, lc, xop, xnum, len, st, vers, evl, xms, own, clr, amt, arg, eg, el, pos, hgt, stk, sst, sev, sw, swm, srf) (nI 4) b (nI (6 * t + h0)) := by
  unfold wpX_execute
  refine br_t (by decide) ?_
  unfold wX_execute_208
  unfold wpX_lookUp
  refine nm_r (nI_pred t) ?_
  refine br_f (by decide) (br_f (by decide) (br_f (by decide) (br_f (by decide) (br_f (by decide) (br_t rfl ?_)))))
  refine ⟨ce_in ht, ?_⟩
  rw [ce_cl (by omega)]
  exact xw_push ht hh h6 hp
theorem xx_22 {post : SX → Prop} {t h0 : Nat} {b : Int32} (ht : t < 5) (hh : hgt t = nI h0) (h6 : h0 < 6) (hp : post (xlim, xps, xvn, xkc, ev, wa, wm, rf, nI (t + 1), ea, er, lr, lu, lc, xop, xnum, len, st, vers, evl, xms, own, clr, amt, arg, eg, el, pos, upd hgt t (nI (h0 + 1)), upd stk (6 * t + h0) (el t), sst, sev, sw, swm, srf)) : wpX_execute post (xlim, xps, xvn, xkc, ev, wa, wm, rf, nI (t + 1), ea, er, lr, lu, lc, xop, xnum, len, st, vers, evl, xms, own, clr, amt, arg, eg, el, pos, hgt, stk, sst, sev, sw, swm, srf) (nI 22) b (nI (6 * t + h0)) := by
  unfold wpX_execute
  refine br_f (by decide) (br_f (by decide) (br_f (by decide) (br_f (by decide) (br_f (by decide) (br_f (by decide) (br_f (by decide) (br_f (by decide) (br_f (by decide) (br_f (by decide) (br_f (by decide) (br_f (by decide) (br_f (by decide) (br_f (by decide) (br_f (by decide) (br_f (by decide) (br_f (by decide) (br_t rfl ?_)))))))))))))))))
  unfold wX_execute_208
  unfold wpX_lookUp
  refine nm_r (nI_pred t) ?_
  refine br_f (by decide) (br_f (by decide) (br_f (by decide) (br_f (by decide) (br_f (by decide) (br_f (by decide) (br_f (by decide) (br_f (by decide) (br_f (by decide) (br_f (by decide) (br_f (by decide) (br_f (by decide) (br_f (by decide) (br_f (by decide) (br_f (by decide) (br_f (by decide) (br_f (by decide) (br_f (by decide) (br_f (by decide) (br_f (by decide) (br_f (by decide) (br_f (by decide) (br_f (by decide) (br_t rfl ?_)))))))))))))))))))))))
  refine ⟨ce_in ht, ?_⟩
  rw [ce_cl (by omega)]
  exact xw_push ht hh h6 hp
theorem xx_5 {post : SX → Prop} {t h0 : Nat} {b : Int32} (ht : t < 5) (hh : hgt t = nI h0) (h6 : h0 < 6) (hp : post (xlim, xps, xvn, xkc, ev, wa, wm, rf, nI (t + 1), ea, er, lr, lu, lc, xop, xnum, len, st, vers, evl, xms, own, clr, amt, arg, eg, el, pos, upd hgt t (nI (h0 + 1)), upd stk (6 * t + h0) (ce_has st (stk (6 * t + h0))), sst, sev, sw, swm, srf)) : wpX_execute post (xlim, xps, xvn, xkc, ev, wa, wm, rf, nI (t + 1), ea, er, lr, lu, lc, xop, xnum, len, st, vers, evl, xms, own, clr, amt, arg, eg, el, pos, hgt, stk, sst, sev, sw, swm, srf) (nI 5) b (nI (6 * t + h0)) := by
  unfold wpX_execute
  refine br_t (by decide) ?_
  unfold wX_execute_208
  unfold wpX_lookUp
  refine nm_r (nI_pred t) ?_
  refine br_f (by decide) (br_f (by decide) (br_f (by decide) (br_f (by decide) (br_f (by decide) (br_f (by decide) (br_t rfl ?_))))))
  rw [ce_cl (by omega)]
  unfold ce_has at hp
  refine ⟨ce_in (by omega), nm_e (br_c (fun q => ?_) (fun n => br_c (fun q => ?_) (fun n2 => ?_)))⟩
  · rw [if_pos q] at hp; exact xw_push ht hh h6 hp
  · rw [if_neg n, if_pos (show nI 6 ≤ _ from q)] at hp; exact xw_push ht hh h6 hp
  · rw [if_neg n, if_neg (show ¬ nI 6 ≤ _ from n2)] at hp
    rcases pk_ix (stk (6 * t + h0)) (n := 6) (by decide) with q | q | ⟨j, hj, e⟩
    · exact absurd q n
    · exact absurd q n2
    · rw [e, ce_cl (by omega)] at hp
      rw [e, ce_mR5, ce_a4, ce_cl (by omega)]
      exact ⟨ce_in (by omega), xw_push ht hh h6 hp⟩
theorem xx_6 {post : SX → Prop} {t h0 : Nat} {b : Int32} (ht : t < 5) (hh : hgt t = nI h0) (h6 : h0 < 6) {a c : Nat} (ha : a < 6) (hown : own t = nI a) (hc : b &&& 3 = nI c) (hc4 : c < 4) (hp : post (xlim, xps, xvn, xkc, ev, wa, wm ||| ((1 : Int32) <<< (nI (5 * a + c) &&& 31)), rf, nI (t + 1), ea, er, lr, lu, lc, xop, xnum, len, st, vers, evl, xms, own, clr, amt, arg, eg, el, pos, upd hgt t (nI (h0 + 1)), upd stk (6 * t + h0) (st (5 * a + c)), sst, sev, sw, swm, srf)) : wpX_execute post (xlim, xps, xvn, xkc, ev, wa, wm, rf, nI (t + 1), ea, er, lr, lu, lc, xop, xnum, len, st, vers, evl, xms, own, clr, amt, arg, eg, el, pos, hgt, stk, sst, sev, sw, swm, srf) (nI 6) b (nI (6 * t + h0)) := by
  unfold wpX_execute
  refine br_t (by decide) ?_
  unfold wX_execute_208
  unfold wpX_lookUp
  refine nm_r (nI_pred t) ?_
  refine br_f (by decide) (br_f (by decide) (br_f (by decide) (br_f (by decide) (br_f (by decide) (br_f (by decide) (br_f (by decide) (br_t rfl ?_)))))))
  rw [ce_cl (t := t) (by omega), hown, hc, ce_mR5, nI_add (5 * a) c]
  refine ⟨ce_in ht, nm_e (nm_e ?_)⟩
  rw [ce_cl (t := 5 * a + c) (by omega)]
  exact ⟨ce_in (by omega), xw_push ht hh h6 hp⟩
theorem xx_7 {post : SX → Prop} {t h0 : Nat} {b : Int32} (ht : t < 5) (hh : hgt t = nI h0) (h6 : h0 < 6) {a c : Nat} (ha : a < 6) (hown : own t = nI a) (hc : b &&& 3 = nI c) (hc4 : c < 4) (hp : post (xlim, xps, xvn, xkc, ev, wa, wm ||| ((1 : Int32) <<< (nI (5 * a + c) &&& 31)), ce_rf rf (stk (6 * t + h0)) (st (5 * a + c)), nI (t + 1), ea, er, lr, lu, lc, xop, xnum, len, upd st (5 * a + c) (stk (6 * t + h0)), vers, evl, xms, own, clr, amt, arg, eg, el, pos, hgt, stk, sst, sev, sw, swm, srf)) : wpX_execute post (xlim, xps, xvn, xkc, ev, wa, wm, rf, nI (t + 1), ea, er, lr, lu, lc, xop, xnum, len, st, vers, evl, xms, own, clr, amt, arg, eg, el, pos, hgt, stk, sst, sev, sw, swm, srf) (nI 7) b (nI (6 * t + h0)) := by
  unfold wpX_execute
  refine br_f (by decide) (br_f (by decide) (br_t rfl ?_))
  rw [ce_cl (t := 6 * t + h0) (by omega)]
  refine ⟨ce_in (by omega), ?_⟩
  unfold wpX_store
  dsimp only
  rw [nI_pred t, ce_cl (t := t) (by omega), hown, hc, ce_mR5, nI_add (5 * a) c]
  refine ⟨ce_in ht, nm_e ?_⟩
  rw [ce_cl (t := 5 * a + c) (by omega)]
  unfold ce_rf at hp
  unfold wX_store_41
  rw [ce_cl (t := 5 * a + c) (by omega)]
  refine br_c (fun q => ⟨ce_in (by omega), br_c (fun q2 => ?_) (fun n2 => nm_e ?_)⟩) (fun n => ?_)
  · rw [if_neg (fun z => z.2 q2)] at hp
    exact nm_e ⟨ce_in (by omega), nm_e hp⟩
  · rw [if_pos ⟨q, n2⟩] at hp
    exact nm_e ⟨ce_in (by omega), nm_e hp⟩
  · rw [if_neg (fun z => n z.1)] at hp
    exact nm_e ⟨ce_in (by omega), nm_e hp⟩
theorem xx_8 {post : SX → Prop} {t h0 : Nat} {b : Int32} (ht : t < 5) (hh : hgt t = nI h0) (h6 : h0 < 5) (hp : post (xlim, xps, xvn, xkc, ev, wa, wm, rf, nI (t + 1), ea, er, lr, lu, lc, xop, xnum, len, st, vers, evl, xms, own, clr, amt, arg, eg, el, pos, upd hgt t (nI (h0 + 1)), upd stk (6 * t + h0) (ce_cmb 8 (stk (6 * t + h0)) (stk (6 * t + h0 + 1))), sst, sev, sw, swm, srf)) : wpX_execute post (xlim, xps, xvn, xkc, ev, wa, wm, rf, nI (t + 1), ea, er, lr, lu, lc, xop, xnum, len, st, vers, evl, xms, own, clr, amt, arg, eg, el, pos, hgt, stk, sst, sev, sw, swm, srf) (nI 8) b (nI (6 * t + h0)) := by
  unfold wpX_execute
  refine br_f (by decide) (br_f (by decide) (br_f (by decide) (br_t rfl ?_)))
  unfold wX_execute_179
  rw [nI_1 (6 * t + h0), ce_cl (t := 6 * t + h0) (by omega), ce_cl (t := 6 * t + h0 + 1) (by omega)]
  refine ⟨ce_in (by omega), ce_in (by omega), ?_⟩
  unfold wpX_combine
  refine br_f (by decide) (br_f (by decide) (br_t rfl (xw_push ht hh (by omega) hp)))
theorem xx_9 {post : SX → Prop} {t h0 : Nat} {b : Int32} (ht : t < 5) (hh : hgt t = nI h0) (h6 : h0 < 5) (hp : post (xlim, xps, xvn, xkc, ev, wa, wm, rf, nI (t + 1), ea, er, lr, lu, lc, xop, xnum, len, st, vers, evl, xms, own, clr, amt, arg, eg, el, pos, upd hgt t (nI (h0 + 1)), upd stk (6 * t + h0) (ce_cmb 9 (stk (6 * t + h0)) (stk (6 * t + h0 + 1))), sst, sev, sw, swm, srf)) : wpX_execute post (xlim, xps, xvn, xkc, ev, wa, wm, rf, nI (t + 1), ea, er, lr, lu, lc, xop, xnum, len, st, vers, evl, xms, own, clr, amt, arg, eg, el, pos, hgt, stk, sst, sev, sw, swm, srf) (nI 9) b (nI (6 * t + h0)) := by
  unfold wpX_execute
  refine br_f (by decide) (br_f (by decide) (br_f (by decide) (br_f (by decide) (br_t rfl ?_))))
  unfold wX_execute_179
  rw [nI_1 (6 * t + h0), ce_cl (t := 6 * t + h0) (by omega), ce_cl (t := 6 * t + h0 + 1) (by omega)]
  refine ⟨ce_in (by omega), ce_in (by omega), ?_⟩
  unfold wpX_combine
  refine br_f (by decide) (br_f (by decide) (br_f (by decide) (br_t rfl (xw_push ht hh (by omega) hp))))
theorem xx_10 {post : SX → Prop} {t h0 : Nat} {b : Int32} (ht : t < 5) (hh : hgt t = nI h0) (h6 : h0 < 5) (hp : post (xlim, xps, xvn, xkc, ev, wa, wm, rf, nI (t + 1), ea, er, lr, lu, lc, xop, xnum, len, st, vers, evl, xms, own, clr, amt, arg, eg, el, pos, upd hgt t (nI (h0 + 1)), upd stk (6 * t + h0) (ce_cmb 10 (stk (6 * t + h0)) (stk (6 * t + h0 + 1))), sst, sev, sw, swm, srf)) : wpX_execute post (xlim, xps, xvn, xkc, ev, wa, wm, rf, nI (t + 1), ea, er, lr, lu, lc, xop, xnum, len, st, vers, evl, xms, own, clr, amt, arg, eg, el, pos, hgt, stk, sst, sev, sw, swm, srf) (nI 10) b (nI (6 * t + h0)) := by
  unfold wpX_execute
  refine br_f (by decide) (br_f (by decide) (br_f (by decide) (br_f (by decide) (br_f (by decide) (br_t rfl ?_)))))
  unfold wX_execute_179
  rw [nI_1 (6 * t + h0), ce_cl (t := 6 * t + h0) (by omega), ce_cl (t := 6 * t + h0 + 1) (by omega)]
  refine ⟨ce_in (by omega), ce_in (by omega), ?_⟩
  unfold wpX_combine
  refine br_f (by decide) (br_f (by decide) (br_f (by decide) (br_f (by decide) (br_t rfl (xw_push ht hh (by omega) hp)))))
theorem xx_11 {post : SX → Prop} {t h0 : Nat} {b : Int32} (ht : t < 5) (hh : hgt t = nI h0) (h6 : h0 < 5) (hp : post (xlim, xps, xvn, xkc, ev, wa, wm, rf, nI (t + 1), ea, er, lr, lu, lc, xop, xnum, len, st, vers, evl, xms, own, clr, amt, arg, eg, el, pos, upd hgt t (nI (h0 + 1)), upd stk (6 * t + h0) (ce_cmb 11 (stk (6 * t + h0)) (stk (6 * t + h0 + 1))), sst, sev, sw, swm, srf)) : wpX_execute post (xlim, xps, xvn, xkc, ev, wa, wm, rf, nI (t + 1), ea, er, lr, lu, lc, xop, xnum, len, st, vers, evl, xms, own, clr, amt, arg, eg, el, pos, hgt, stk, sst, sev, sw, swm, srf) (nI 11) b (nI (6 * t + h0)) := by
  unfold wpX_execute
  refine br_f (by decide) (br_f (by decide) (br_f (by decide) (br_f (by decide) (br_f (by decide) (br_f (by decide) (br_t rfl ?_))))))
  unfold wX_execute_179
  rw [nI_1 (6 * t + h0), ce_cl (t := 6 * t + h0) (by omega), ce_cl (t := 6 * t + h0 + 1) (by omega)]
  refine ⟨ce_in (by omega), ce_in (by omega), ?_⟩
  unfold wpX_combine
  refine br_f (by decide) (br_f (by decide) (br_f (by decide) (br_f (by decide) (br_f (by decide) (br_t rfl (br_c (fun q => xw_push ht hh (by omega) ?_) (fun q => xw_push ht hh (by omega) ?_)))))))
  · rw [show ce_cmb 11 (stk (6 * t + h0)) (stk (6 * t + h0 + 1)) = 0 from if_pos q] at hp; exact hp
  · rw [show ce_cmb 11 (stk (6 * t + h0)) (stk (6 * t + h0 + 1)) = 1 from if_neg q] at hp; exact hp
theorem xx_12 {post : SX → Prop} {t h0 : Nat} {b : Int32} (ht : t < 5) (hh : hgt t = nI h0) (h6 : h0 < 5) (hp : post (xlim, xps, xvn, xkc, ev, wa, wm, rf, nI (t + 1), ea, er, lr, lu, lc, xop, xnum, len, st, vers, evl, xms, own, clr, amt, arg, eg, el, pos, upd hgt t (nI (h0 + 1)), upd stk (6 * t + h0) (ce_cmb 12 (stk (6 * t + h0)) (stk (6 * t + h0 + 1))), sst, sev, sw, swm, srf)) : wpX_execute post (xlim, xps, xvn, xkc, ev, wa, wm, rf, nI (t + 1), ea, er, lr, lu, lc, xop, xnum, len, st, vers, evl, xms, own, clr, amt, arg, eg, el, pos, hgt, stk, sst, sev, sw, swm, srf) (nI 12) b (nI (6 * t + h0)) := by
  unfold wpX_execute
  refine br_f (by decide) (br_f (by decide) (br_f (by decide) (br_f (by decide) (br_f (by decide) (br_f (by decide) (br_f (by decide) (br_t rfl ?_)))))))
  unfold wX_execute_179
  rw [nI_1 (6 * t + h0), ce_cl (t := 6 * t + h0) (by omega), ce_cl (t := 6 * t + h0 + 1) (by omega)]
  refine ⟨ce_in (by omega), ce_in (by omega), ?_⟩
  unfold wpX_combine
  refine br_f (by decide) (br_t (by decide) (br_c (fun q => xw_push ht hh (by omega) ?_) (fun q => xw_push ht hh (by omega) ?_)))
  · rw [show ce_cmb 12 (stk (6 * t + h0)) (stk (6 * t + h0 + 1)) = 1 from if_pos q] at hp; exact hp
  · rw [show ce_cmb 12 (stk (6 * t + h0)) (stk (6 * t + h0 + 1)) = 0 from if_neg q] at hp; exact hp
theorem xx_13 {post : SX → Prop} {t h0 : Nat} {b : Int32} (ht : t < 5) (hh : hgt t = nI h0) (h6 : h0 < 5) (hp : post (xlim, xps, xvn, xkc, ev, wa, wm, rf, nI (t + 1), ea, er, lr, lu, lc, xop, xnum, len, st, vers, evl, xms, own, clr, amt, arg, eg, el, pos, upd hgt t (nI (h0 + 2)), upd (upd stk (6 * t + h0) (stk (6 * t + h0))) (6 * t + (h0 + 1)) (stk (6 * t + h0)), sst, sev, sw, swm, srf)) : wpX_execute post (xlim, xps, xvn, xkc, ev, wa, wm, rf, nI (t + 1), ea, er, lr, lu, lc, xop, xnum, len, st, vers, evl, xms, own, clr, amt, arg, eg, el, pos, hgt, stk, sst, sev, sw, swm, srf) (nI 13) b (nI (6 * t + h0)) := by
  unfold wpX_execute
  refine br_f (by decide) (br_f (by decide) (br_f (by decide) (br_f (by decide) (br_f (by decide) (br_f (by decide) (br_f (by decide) (br_f (by decide) (br_t rfl ?_))))))))
  rw [ce_cl (t := 6 * t + h0) (by omega)]
  refine ⟨ce_in (by omega), nm_e (xw_push ht hh (by omega) ?_)⟩
  refine xw_push (h := h0 + 1) ht pk_us (by omega) ?_
  rw [ce_uu]
  exact hp
theorem xx_15 {post : SX → Prop} {t h0 : Nat} {b : Int32} (ht : t < 5) (hh : hgt t = nI h0) (h6 : h0 < 5) (hp : post (xlim, xps, xvn, xkc, ev, wa, wm, rf, nI (t + 1), ea, er, lr, lu, lc, xop, xnum, len, st, vers, evl, xms, own, clr, amt, arg, eg, el, pos, upd hgt t (nI (h0 + 2)), upd (upd stk (6 * t + h0) (stk (6 * t + h0 + 1))) (6 * t + (h0 + 1)) (stk (6 * t + h0)), sst, sev, sw, swm, srf)) : wpX_execute post (xlim, xps, xvn, xkc, ev, wa, wm, rf, nI (t + 1), ea, er, lr, lu, lc, xop, xnum, len, st, vers, evl, xms, own, clr, amt, arg, eg, el, pos, hgt, stk, sst, sev, sw, swm, srf) (nI 15) b (nI (6 * t + h0)) := by
  unfold wpX_execute
  refine br_f (by decide) (br_f (by decide) (br_f (by decide) (br_f (by decide) (br_f (by decide) (br_f (by decide) (br_f (by decide) (br_f (by decide) (br_f (by decide) (br_f (by decide) (br_t rfl ?_))))))))))
  rw [nI_1 (6 * t + h0), ce_cl (t := 6 * t + h0) (by omega), ce_cl (t := 6 * t + h0 + 1) (by omega)]
  refine ⟨ce_in (by omega), nm_e ⟨ce_in (by omega), nm_e (xw_push ht hh (by omega) ?_)⟩⟩
  refine xw_push (h := h0 + 1) ht pk_us (by omega) ?_
  rw [ce_uu]
  exact hp
theorem xx_14 {post : SX → Prop} {t h0 : Nat} {b : Int32} (hp : post (xlim, xps, xvn, xkc, ev, wa, wm, rf, nI (t + 1), ea, er, lr, lu, lc, xop, xnum, len, st, vers, evl, xms, own, clr, amt, arg, eg, el, pos, hgt, stk, sst, sev, sw, swm, srf)) : wpX_execute post (xlim, xps, xvn, xkc, ev, wa, wm, rf, nI (t + 1), ea, er, lr, lu, lc, xop, xnum, len, st, vers, evl, xms, own, clr, amt, arg, eg, el, pos, hgt, stk, sst, sev, sw, swm, srf) (nI 14) b (nI (6 * t + h0)) := by
  unfold wpX_execute
  refine br_f (by decide) (br_f (by decide) (br_f (by decide) (br_f (by decide) (br_f (by decide) (br_f (by decide) (br_f (by decide) (br_f (by decide) (br_f (by decide) (br_t rfl ?_)))))))))
  exact hp
theorem xx_16 {post : SX → Prop} {t h0 : Nat} {b : Int32} (hp : post (xlim, xps, xvn, xkc, ev, wa, wm, rf, nI (t + 1), ea, er, lr, lu, lc, xop, xnum, len, st, vers, evl, xms, own, clr, amt, arg, eg, el, pos, hgt, stk, sst, sev, sw, swm, srf)) : wpX_execute post (xlim, xps, xvn, xkc, ev, wa, wm, rf, nI (t + 1), ea, er, lr, lu, lc, xop, xnum, len, st, vers, evl, xms, own, clr, amt, arg, eg, el, pos, hgt, stk, sst, sev, sw, swm, srf) (nI 16) b (nI (6 * t + h0)) := by
  unfold wpX_execute
  refine br_f (by decide) (br_f (by decide) (br_f (by decide) (br_f (by decide) (br_f (by decide) (br_f (by decide) (br_f (by decide) (br_f (by decide) (br_f (by decide) (br_f (by decide) (br_f (by decide) (br_t rfl ?_)))))))))))
  exact hp
theorem xx_17 {post : SX → Prop} {t h0 : Nat} {b : Int32} (hp : post (xlim, xps, xvn, xkc, ev, wa, wm, rf, nI (t + 1), ea, er, lr, lu, lc, xop, xnum, len, st, vers, evl, xms, own, clr, amt, arg, eg, el, pos, hgt, stk, sst, sev, sw, swm, srf)) : wpX_execute post (xlim, xps, xvn, xkc, ev, wa, wm, rf, nI (t + 1), ea, er, lr, lu, lc, xop, xnum, len, st, vers, evl, xms, own, clr, amt, arg, eg, el, pos, hgt, stk, sst, sev, sw, swm, srf) (nI 17) b (nI (6 * t + h0)) := by
  unfold wpX_execute
  refine br_f (by decide) (br_f (by decide) (br_f (by decide) (br_f (by decide) (br_f (by decide) (br_f (by decide) (br_f (by decide) (br_f (by decide) (br_f (by decide) (br_f (by decide) (br_f (by decide) (br_f (by decide) (br_t rfl ?_))))))))))))
  exact hp
theorem xx_21n {post : SX → Prop} {t h0 E : Nat} {b : Int32} (ht : t < 5) (h6 : h0 < 6) (hE : E = 20) (hp : post (xlim, xps, xvn, xkc, nI E, wa, wm, rf, nI (t + 1), ea, er, lr, lu, lc, xop, xnum, len, st, vers, evl, xms, own, clr, amt, arg, eg, el, pos, hgt, stk, sst, sev, sw, swm, srf)) : wpX_execute post (xlim, xps, xvn, xkc, nI E, wa, wm, rf, nI (t + 1), ea, er, lr, lu, lc, xop, xnum, len, st, vers, evl, xms, own, clr, amt, arg, eg, el, pos, hgt, stk, sst, sev, sw, swm, srf) (nI 21) b (nI (6 * t + h0)) := by
  subst hE
  unfold wpX_execute
  refine br_f (by decide) (br_f (by decide) (br_f (by decide) (br_f (by decide) (br_f (by decide) (br_f (by decide) (br_f (by decide) (br_f (by decide) (br_f (by decide) (br_f (by decide) (br_f (by decide) (br_f (by decide) (br_f (by decide) (br_f (by decide) (br_f (by decide) (br_f (by decide) (br_t rfl ?_))))))))))))))))
  refine ⟨ce_in (by omega), ?_⟩
  unfold wpX_addEvent
  exact br_f (by decide) hp
theorem xx_21y {post : SX → Prop} {t h0 E : Nat} {b : Int32} (ht : t < 5) (h6 : h0 < 6) (hE : E < 20) (hp : post (xlim, xps, xvn, xkc, nI (E + 1), wa, wm, rf, nI (t + 1), ea, er, lr, lu, lc, xop, xnum, len, st, vers, ce_e3 evl E (own t) b (stk (6 * t + h0)), xms, own, clr, amt, arg, eg, el, pos, hgt, stk, sst, sev, sw, swm, srf)) : wpX_execute post (xlim, xps, xvn, xkc, nI E, wa, wm, rf, nI (t + 1), ea, er, lr, lu, lc, xop, xnum, len, st, vers, evl, xms, own, clr, amt, arg, eg, el, pos, hgt, stk, sst, sev, sw, swm, srf) (nI 21) b (nI (6 * t + h0)) := by
  unfold wpX_execute
  refine br_f (by decide) (br_f (by decide) (br_f (by decide) (br_f (by decide) (br_f (by decide) (br_f (by decide) (br_f (by decide) (br_f (by decide) (br_f (by decide) (br_f (by decide) (br_f (by decide) (br_f (by decide) (br_f (by decide) (br_f (by decide) (br_f (by decide) (br_f (by decide) (br_t rfl ?_))))))))))))))))
  rw [ce_cl (t := 6 * t + h0) (by omega)]
  refine ⟨ce_in (by omega), ?_⟩
  unfold wpX_addEvent
  dsimp only
  rw [nI_pred t, ce_cl (t := t) (by omega), ce_mR3]
  refine br_t (nI_lt (b := 20) hE (by decide)) (nm_e ?_)
  rw [nI_1 (3 * E), ce_a2 (3 * E), nI_1 E, ce_cl (t := 3 * E) (by omega), ce_cl (t := 3 * E + 1) (by omega), ce_cl (t := 3 * E + 2) (by omega)]
  exact ⟨ce_in ht, ce_in (by omega), nm_e ⟨ce_in (by omega), nm_e ⟨ce_in (by omega), nm_e (nm_e hp)⟩⟩⟩
theorem xx_23n {post : SX → Prop} {t h0 W : Nat} {b : Int32} (ht : t < 5) (h6 : h0 < 4) (hW : W ≤ 6) (hn : W = 6 ∨ stk (6 * t + h0) < 0 ∨ nI 6 ≤ stk (6 * t + h0)) (hp : post (xlim, xps, xvn, xkc, ev, nI W, wm, rf, nI (t + 1), ea, er, lr, lu, lc, xop, xnum, len, st, vers, evl, xms, own, clr, amt, arg, eg, el, pos, hgt, stk, sst, sev, sw, swm, srf)) : wpX_execute post (xlim, xps, xvn, xkc, ev, nI W, wm, rf, nI (t + 1), ea, er, lr, lu, lc, xop, xnum, len, st, vers, evl, xms, own, clr, amt, arg, eg, el, pos, hgt, stk, sst, sev, sw, swm, srf) (nI 23) b (nI (6 * t + h0)) := by
  unfold wpX_execute
  refine br_f (by decide) (br_f (by decide) (br_f (by decide) (br_f (by decide) (br_f (by decide) (br_f (by decide) (br_f (by decide) (br_f (by decide) (br_f (by decide) (br_f (by decide) (br_f (by decide) (br_f (by decide) (br_f (by decide) (br_f (by decide) (br_f (by decide) (br_f (by decide) (br_f (by decide) (br_f (by decide) (br_t rfl ?_))))))))))))))))))
  unfold wpX_send
  dsimp only
  rw [ce_cl (t := 6 * t + h0) (by omega)]
  refine ⟨ce_in (by omega), nm_e (br_c (fun _ => hp) (fun n => br_c (fun _ => hp) (fun n2 => br_f ?_ hp)))⟩
  rcases hn with q | q | q
  · subst q; exact absurd (by decide) n
  · exact absurd q n2
  · exact Int32.not_lt.mpr q
theorem xx_23y {post : SX → Prop} {t h0 W a : Nat} {b : Int32} (ht : t < 5) (h6 : h0 < 4) (hW : W < 6) (ha : a < 6) (hs : stk (6 * t + h0) = nI a) (hp : post (xlim, xps, xvn, xkc, ev, nI (W + 1), wm, rf, nI (t + 1), ea, er, lr, lu, lc, xop, xnum, len, st, vers, evl, ce_m4 xms W (nI a) (stk (6 * t + h0 + 1)) (stk (6 * t + h0 + 2)) (own t), own, clr, amt, arg, eg, el, pos, hgt, stk, sst, sev, sw, swm, srf)) : wpX_execute post (xlim, xps, xvn, xkc, ev, nI W, wm, rf, nI (t + 1), ea, er, lr, lu, lc, xop, xnum, len, st, vers, evl, xms, own, clr, amt, arg, eg, el, pos, hgt, stk, sst, sev, sw, swm, srf) (nI 23) b (nI (6 * t + h0)) := by
  unfold wpX_execute
  refine br_f (by decide) (br_f (by decide) (br_f (by decide) (br_f (by decide) (br_f (by decide) (br_f (by decide) (br_f (by decide) (br_f (by decide) (br_f (by decide) (br_f (by decide) (br_f (by decide) (br_f (by decide) (br_f (by decide) (br_f (by decide) (br_f (by decide) (br_f (by decide) (br_f (by decide) (br_f (by decide) (br_t rfl ?_))))))))))))))))))
  unfold wpX_send
  dsimp only
  rw [nI_pred t, ce_cl (t := t) (by omega), ce_mR4, nI_1 (6 * t + h0), ce_a2 (6 * t + h0), ce_cl (t := 6 * t + h0) (by omega), ce_cl (t := 6 * t + h0 + 1) (by omega), ce_cl (t := 6 * t + h0 + 2) (by omega), hs]
  refine ⟨ce_in (by omega), nm_e (br_f (nI_ge (b := 6) hW (by decide)) (br_f (nI_pos (by omega)) (br_t (nI_lt (b := 6) ha (by decide)) (nm_e ?_))))⟩
  rw [nI_1 (4 * W), ce_a2 (4 * W), ce_a3 (4 * W), nI_1 W, ce_cl (t := 4 * W) (by omega), ce_cl (t := 4 * W + 1) (by omega), ce_cl (t := 4 * W + 2) (by omega), ce_cl (t := 4 * W + 3) (by omega)]
  exact ⟨ce_in (by omega), nm_e ⟨ce_in (by omega), ce_in (by omega), nm_e ⟨ce_in (by omega), ce_in (by omega), nm_e ⟨ce_in ht, ce_in (by omega), nm_e (nm_e hp)⟩⟩⟩⟩
end
end
section
section
variable {xlim xps xvn xkc ev wa wm rf dp ea er lr lu lc ylim yend yans yrest ybeg yres yused ycalls yver ykept : Int32} {xop xnum len st vers evl xms own clr amt arg eg el pos hgt stk sst sev sw swm srf yop ybs cps old bef ywm wcp ecp mcp rcp yms ysf ycl yam yar ygv yel yat ytp : Nat → Int32}
theorem yy_0 {post : SY → Prop} {t h0 a c : Nat} {b : Int32} (ht : t < 5) (ha : a < 6) (hown : ysf t = nI a) (hc : b &&& 3 = nI c) (hc4 : c < 4) (hh : ytp t = nI h0) (h6 : h0 < 6) (hp : post (ylim, ev, wa, rf, nI (t + 1), yend, yans, yrest, ybeg, yres, yused, ycalls, yver, ykept, yop, ybs, len, st, cps, old, bef, ywm, wcp, ecp, mcp, rcp, evl, yms, ysf, ycl, yam, yar, ygv, yel, yat, upd ytp t (nI (h0 + 1)), upd stk (6 * t + h0) (b))) : wpY_simple post (ylim, ev, wa, rf, nI (t + 1), yend, yans, yrest, ybeg, yres, yused, ycalls, yver, ykept, yop, ybs, len, st, cps, old, bef, ywm, wcp, ecp, mcp, rcp, evl, yms, ysf, ycl, yam, yar, ygv, yel, yat, ytp, stk) (nI 0) b (nI (4 * a + c)) := by
  unfold wpY_simple
  refine nm_r (nI_pred t) ⟨ce_in ht, nm_r (show 5 * ysf (nI t).toNatClampNeg + (b &&& 3) = nI (5 * a + c) from by rw [ce_cl (by omega), hown, hc, ce_mL5, nI_add]) ?_⟩
  refine br_f (by decide) (br_f (by decide) (br_t rfl ?_))
  exact yw_push ht hh h6 hp
theorem yy_1 {post : SY → Prop} {t h0 a c : Nat} {b : Int32} (ht : t < 5) (ha : a < 6) (hown : ysf t = nI a) (hc : b &&& 3 = nI c) (hc4 : c < 4) (hh : ytp t = nI h0) (h6 : h0 < 6) (hp : post (ylim, ev, wa, rf, nI (t + 1), yend, yans, yrest, ybeg, yres, yused, ycalls, yver, ykept, yop, ybs, len, st, cps, old, bef, ywm, wcp, ecp, mcp, rcp, evl, yms, ysf, ycl, yam, yar, ygv, yel, yat, upd ytp t (nI (h0 + 1)), upd stk (6 * t + h0) (yar t))) : wpY_simple post (ylim, ev, wa, rf, nI (t + 1), yend, yans, yrest, ybeg, yres, yused, ycalls, yver, ykept, yop, ybs, len, st, cps, old, bef, ywm, wcp, ecp, mcp, rcp, evl, yms, ysf, ycl, yam, yar, ygv, yel, yat, ytp, stk) (nI 1) b (nI (4 * a + c)) := by
  unfold wpY_simple
  refine nm_r (nI_pred t) ⟨ce_in ht, nm_r (show 5 * ysf (nI t).toNatClampNeg + (b &&& 3) = nI (5 * a + c) from by rw [ce_cl (by omega), hown, hc, ce_mL5, nI_add]) ?_⟩
  refine br_f (by decide) (br_f (by decide) (br_f (by decide) (br_t rfl ?_)))
  rw [ce_cl (t := t) (by omega)]
  exact ⟨ce_in ht, yw_push ht hh h6 hp⟩
theorem yy_2 {post : SY → Prop} {t h0 a c : Nat} {b : Int32} (ht : t < 5) (ha : a < 6) (hown : ysf t = nI a) (hc : b &&& 3 = nI c) (hc4 : c < 4) (hh : ytp t = nI h0) (h6 : h0 < 6) (hp : post (ylim, ev, wa, rf, nI (t + 1), yend, yans, yrest, ybeg, yres, yused, ycalls, yver, ykept, yop, ybs, len, st, cps, old, bef, ywm, wcp, ecp, mcp, rcp, evl, yms, ysf, ycl, yam, yar, ygv, yel, yat, upd ytp t (nI (h0 + 1)), upd stk (6 * t + h0) (ycl t))) : wpY_simple post (ylim, ev, wa, rf, nI (t + 1), yend, yans, yrest, ybeg, yres, yused, ycalls, yver, ykept, yop, ybs, len, st, cps, old, bef, ywm, wcp, ecp, mcp, rcp, evl, yms, ysf, ycl, yam, yar, ygv, yel, yat, ytp, stk) (nI 2) b (nI (4 * a + c)) := by
  unfold wpY_simple
  refine nm_r (nI_pred t) ⟨ce_in ht, nm_r (show 5 * ysf (nI t).toNatClampNeg + (b &&& 3) = nI (5 * a + c) from by rw [ce_cl (by omega), hown, hc, ce_mL5, nI_add]) ?_⟩
  refine br_f (by decide) (br_f (by decide) (br_f (by decide) (br_f (by decide) (br_t rfl ?_))))
  rw [ce_cl (t := t) (by omega)]
  exact ⟨ce_in ht, yw_push ht hh h6 hp⟩
theorem yy_3 {post : SY → Prop} {t h0 a c : Nat} {b : Int32} (ht : t < 5) (ha : a < 6) (hown : ysf t = nI a) (hc : b &&& 3 = nI c) (hc4 : c < 4) (hh : ytp t = nI h0) (h6 : h0 < 6) (hp : post (ylim, ev, wa, rf, nI (t + 1), yend, yans, yrest, ybeg, yres, yused, ycalls, yver, ykept, yop, ybs, len, st, cps, old, bef, ywm, wcp, ecp, mcp, rcp, evl, yms, ysf, ycl, yam, yar, ygv, yel, yat, upd ytp t (nI (h0 + 1)), upd stk (6 * t + h0) (ysf t))) : wpY_simple post (ylim, ev, wa, rf, nI (t + 1), yend, yans, yrest, ybeg, yres, yused, ycalls, yver, ykept, yop, ybs, len, st, cps, old, bef, ywm, wcp, ecp, mcp, rcp, evl, yms, ysf, ycl, yam, yar, ygv, yel, yat, ytp, stk) (nI 3) b (nI (4 * a + c)) := by
  unfold wpY_simple
  refine nm_r (nI_pred t) ⟨ce_in ht, nm_r (show 5 * ysf (nI t).toNatClampNeg + (b &&& 3) = nI (5 * a + c) from by rw [ce_cl (by omega), hown, hc, ce_mL5, nI_add]) ?_⟩
  refine br_f (by decide) (br_f (by decide) (br_f (by decide) (br_f (by decide) (br_f (by decide) (br_t rfl ?_)))))
  rw [ce_cl (t := t) (by omega)]
  exact ⟨ce_in ht, yw_push ht hh h6 hp⟩
theorem yy_4 {post : SY → Prop} {t h0 a c : Nat} {b : Int32} (ht : t < 5) (ha : a < 6) (hown : ysf t = nI a) (hc : b &&& 3 = nI c) (hc4 : c < 4) (hh : ytp t = nI h0) (h6 : h0 < 6) (hp : post (ylim, ev, wa, rf, nI (t + 1), yend, yans, yrest, ybeg, yres, yused, ycalls, yver, ykept, yop, ybs, len, st, cps, old, bef, ywm, wcp, ecp, mcp, rcp, evl, yms, ysf, ycl, yam, yar, ygv, yel, yat, upd ytp t (nI (h0 + 1)), upd stk (6 * t + h0) (yam t))) : wpY_simple post (ylim, ev, wa, rf, nI (t + 1), yend, yans, yrest, ybeg, yres, yused, ycalls, yver, ykept, yop, ybs, len, st, cps, old, bef, ywm, wcp, ecp, mcp, rcp, evl, yms, ysf, ycl, yam, yar, ygv, yel, yat, ytp, stk) (nI 4) b (nI (4 * a + c)) := by
  unfold wpY_simple
  refine nm_r (nI_pred t) ⟨ce_in ht, nm_r (show 5 * ysf (nI t).toNatClampNeg + (b &&& 3) = nI (5 * a + c) from by rw [ce_cl (by omega), hown, hc, ce_mL5, nI_add]) ?_⟩
  refine br_f (by decide) (br_f (by decide) (br_f (by decide) (br_f (by decide) (br_f (by decide) (br_f (by decide) (br_t rfl ?_))))))
  rw [ce_cl (t := t) (by omega)]
  exact ⟨ce_in ht, yw_push ht hh h6 hp⟩
theorem yy_5 {post : SY → Prop} {t h0 a c : Nat} {b : Int32} (ht : t < 5) (ha : a < 6) (hown : ysf t = nI a) (hc : b &&& 3 = nI c) (hc4 : c < 4) (hh : ytp t = nI (h0 + 1)) (h6 : h0 < 6) (hp : post (ylim, ev, wa, rf, nI (t + 1), yend, yans, yrest, ybeg, yres, yused, ycalls, yver, ykept, yop, ybs, len, st, cps, old, bef, ywm, wcp, ecp, mcp, rcp, evl, yms, ysf, ycl, yam, yar, ygv, yel, yat, upd ytp t (nI (h0 + 1)), upd stk (6 * t + h0) (ce_has st (stk (6 * t + h0))))) : wpY_simple post (ylim, ev, wa, rf, nI (t + 1), yend, yans, yrest, ybeg, yres, yused, ycalls, yver, ykept, yop, ybs, len, st, cps, old, bef, ywm, wcp, ecp, mcp, rcp, evl, yms, ysf, ycl, yam, yar, ygv, yel, yat, ytp, stk) (nI 5) b (nI (4 * a + c)) := by
  unfold wpY_simple
  refine nm_r (nI_pred t) ⟨ce_in ht, nm_r (show 5 * ysf (nI t).toNatClampNeg + (b &&& 3) = nI (5 * a + c) from by rw [ce_cl (by omega), hown, hc, ce_mL5, nI_add]) ?_⟩
  refine br_f (by decide) (br_f (by decide) (br_f (by decide) (br_f (by decide) (br_f (by decide) (br_f (by decide) (br_f (by decide) (br_t rfl ?_)))))))
  refine yw_pop ht hh h6 ?_
  unfold ce_has at hp
  rcases pk_ix (stk (6 * t + h0)) (n := 6) (by decide) with q | q | ⟨j, hj, e⟩
  · rw [if_pos q] at hp
    refine yw_accF (Or.inl q) (br_t rfl ?_)
    unfold wY_simple_162
    refine yw_push ht pk_us h6 ?_
    rw [ce_uu]; exact hp
  · have n : ¬ stk (6 * t + h0) < 0 := fun z => Int32.not_lt.mpr (Int32.le_trans (by decide) q) z
    rw [if_neg n, if_pos q] at hp
    refine yw_accF (Or.inr q) (br_t rfl ?_)
    unfold wY_simple_162
    refine yw_push ht pk_us h6 ?_
    rw [ce_uu]; exact hp
  · rw [e, if_neg (nI_pos (by omega)), if_neg (nI_ge hj (by decide)), ce_cl (by omega)] at hp
    rw [e]
    refine yw_accT hj (br_f (by decide) ?_)
    rw [ce_mL5, ce_a4, ce_cl (by omega)]
    unfold wY_simple_162
    refine ⟨ce_in (by omega), yw_push ht pk_us h6 ?_⟩
    rw [ce_uu]; exact hp
theorem yy_6 {post : SY → Prop} {t h0 a c : Nat} {b : Int32} (ht : t < 5) (ha : a < 6) (hown : ysf t = nI a) (hc : b &&& 3 = nI c) (hc4 : c < 4) (hh : ytp t = nI h0) (h6 : h0 < 6) (hp : post (ylim, ev, wa, rf, nI (t + 1), yend, yans, yrest, ybeg, yres, yused, ycalls, yver, ykept, yop, ybs, len, st, cps, old, bef, upd ywm (4 * a + c) 1, wcp, ecp, mcp, rcp, evl, yms, ysf, ycl, yam, yar, ygv, yel, yat, upd ytp t (nI (h0 + 1)), upd stk (6 * t + h0) (st (5 * a + c)))) : wpY_simple post (ylim, ev, wa, rf, nI (t + 1), yend, yans, yrest, ybeg, yres, yused, ycalls, yver, ykept, yop, ybs, len, st, cps, old, bef, ywm, wcp, ecp, mcp, rcp, evl, yms, ysf, ycl, yam, yar, ygv, yel, yat, ytp, stk) (nI 6) b (nI (4 * a + c)) := by
  unfold wpY_simple
  refine nm_r (nI_pred t) ⟨ce_in ht, nm_r (show 5 * ysf (nI t).toNatClampNeg + (b &&& 3) = nI (5 * a + c) from by rw [ce_cl (by omega), hown, hc, ce_mL5, nI_add]) ?_⟩
  refine br_f (by decide) (br_f (by decide) (br_f (by decide) (br_f (by decide) (br_f (by decide) (br_f (by decide) (br_f (by decide) (br_f (by decide) (br_t rfl ?_))))))))
  rw [ce_cl (t := 4 * a + c) (by omega), ce_cl (t := 5 * a + c) (by omega)]
  exact ⟨ce_in (by omega), nm_e ⟨ce_in (by omega), yw_push ht hh h6 hp⟩⟩
theorem yy_7 {post : SY → Prop} {t h0 a c : Nat} {b : Int32} (ht : t < 5) (ha : a < 6) (hown : ysf t = nI a) (hc : b &&& 3 = nI c) (hc4 : c < 4) (hh : ytp t = nI (h0 + 1)) (h6 : h0 < 6) (hp : post (ylim, ev, wa, ce_rf rf (stk (6 * t + h0)) (st (5 * a + c)), nI (t + 1), yend, yans, yrest, ybeg, yres, yused, ycalls, yver, ykept, yop, ybs, len, upd st (5 * a + c) (stk (6 * t + h0)), cps, old, bef, upd ywm (4 * a + c) 1, wcp, ecp, mcp, rcp, evl, yms, ysf, ycl, yam, yar, ygv, yel, yat, upd ytp t (nI h0), stk)) : wpY_simple post (ylim, ev, wa, rf, nI (t + 1), yend, yans, yrest, ybeg, yres, yused, ycalls, yver, ykept, yop, ybs, len, st, cps, old, bef, ywm, wcp, ecp, mcp, rcp, evl, yms, ysf, ycl, yam, yar, ygv, yel, yat, ytp, stk) (nI 7) b (nI (4 * a + c)) := by
  unfold wpY_simple
  refine nm_r (nI_pred t) ⟨ce_in ht, nm_r (show 5 * ysf (nI t).toNatClampNeg + (b &&& 3) = nI (5 * a + c) from by rw [ce_cl (by omega), hown, hc, ce_mL5, nI_add]) ?_⟩
  refine br_f (by decide) (br_t (by decide) ?_)
  rw [ce_cl (t := 4 * a + c) (by omega), ce_cl (t := 5 * a + c) (by omega)]
  refine ⟨ce_in (by omega), nm_e (yw_pop ht hh h6 ?_)⟩
  unfold ce_rf at hp
  refine br_c (fun q => ⟨ce_in (by omega), br_c (fun q2 => ?_) (fun n2 => nm_e ?_)⟩) (fun n => ?_)
  · rw [if_neg (fun z => z.2 q2)] at hp
    exact ⟨ce_in (by omega), nm_e hp⟩
  · rw [if_pos ⟨q, n2⟩] at hp
    exact ⟨ce_in (by omega), nm_e hp⟩
  · rw [if_neg (fun z => n z.1)] at hp
    exact ⟨ce_in (by omega), nm_e hp⟩
theorem yy_16 {post : SY → Prop} {t h0 : Nat} (ht : t < 5) (hp : post (ylim, ev, wa, rf, nI (t + 1), yend, yans, yrest, ybeg, yres, yused, ycalls, yver, ykept, yop, ybs, len, st, cps, old, bef, ywm, wcp, ecp, mcp, rcp, evl, yms, ysf, ycl, yam, yar, ygv, yel, yat, ytp, stk)) : wpY_onStack post (ylim, ev, wa, rf, nI (t + 1), yend, yans, yrest, ybeg, yres, yused, ycalls, yver, ykept, yop, ybs, len, st, cps, old, bef, ywm, wcp, ecp, mcp, rcp, evl, yms, ysf, ycl, yam, yar, ygv, yel, yat, ytp, stk) (nI 16) := by
  unfold wpY_onStack
  exact br_t rfl hp
theorem yy_14 {post : SY → Prop} {t h0 : Nat} (ht : t < 5) (hh : ytp t = nI (h0 + 1)) (h6 : h0 < 6) (hp : post (ylim, ev, wa, rf, nI (t + 1), yend, yans, yrest, ybeg, yres, yused, ycalls, yver, ykept, yop, ybs, len, st, cps, old, bef, ywm, wcp, ecp, mcp, rcp, evl, yms, ysf, ycl, yam, yar, ygv, yel, yat, upd ytp t (nI h0), stk)) : wpY_onStack post (ylim, ev, wa, rf, nI (t + 1), yend, yans, yrest, ybeg, yres, yused, ycalls, yver, ykept, yop, ybs, len, st, cps, old, bef, ywm, wcp, ecp, mcp, rcp, evl, yms, ysf, ycl, yam, yar, ygv, yel, yat, ytp, stk) (nI 14) := by
  unfold wpY_onStack
  refine br_f (by decide) (yw_pop ht hh h6 (br_f (by decide) ?_))
  unfold wY_onStack_28
  exact br_f (by decide) (br_t rfl hp)
theorem yy_17 {post : SY → Prop} {t h0 : Nat} (ht : t < 5) (hh : ytp t = nI (h0 + 1)) (h6 : h0 < 6) (hp : post (ylim, ev, wa, rf, nI (t + 1), yend, yans, yrest, ybeg, yres, yused, ycalls, yver, ykept, yop, ybs, len, st, cps, old, bef, ywm, wcp, ecp, mcp, rcp, evl, yms, ysf, ycl, yam, yar, ygv, yel, yat, upd ytp t (nI h0), stk)) : wpY_onStack post (ylim, ev, wa, rf, nI (t + 1), yend, yans, yrest, ybeg, yres, yused, ycalls, yver, ykept, yop, ybs, len, st, cps, old, bef, ywm, wcp, ecp, mcp, rcp, evl, yms, ysf, ycl, yam, yar, ygv, yel, yat, ytp, stk) (nI 17) := by
  unfold wpY_onStack
  refine br_f (by decide) (yw_pop ht hh h6 (br_f (by decide) ?_))
  unfold wY_onStack_28
  exact br_f (by decide) (br_f (by decide) (br_t rfl hp))
theorem yy_13 {post : SY → Prop} {t h0 : Nat} (ht : t < 5) (hh : ytp t = nI (h0 + 1)) (h6 : h0 < 5) (hp : post (ylim, ev, wa, rf, nI (t + 1), yend, yans, yrest, ybeg, yres, yused, ycalls, yver, ykept, yop, ybs, len, st, cps, old, bef, ywm, wcp, ecp, mcp, rcp, evl, yms, ysf, ycl, yam, yar, ygv, yel, yat, upd ytp t (nI (h0 + 2)), upd (upd stk (6 * t + h0) (stk (6 * t + h0))) (6 * t + (h0 + 1)) (stk (6 * t + h0)))) : wpY_onStack post (ylim, ev, wa, rf, nI (t + 1), yend, yans, yrest, ybeg, yres, yused, ycalls, yver, ykept, yop, ybs, len, st, cps, old, bef, ywm, wcp, ecp, mcp, rcp, evl, yms, ysf, ycl, yam, yar, ygv, yel, yat, ytp, stk) (nI 13) := by
  unfold wpY_onStack
  refine br_f (by decide) (yw_pop ht hh (by omega) (br_t rfl (yw_push ht pk_us (by omega) (yw_push (h := h0 + 1) ht pk_us (by omega) ?_))))
  unfold wY_onStack_28
  rw [ce_uu, ce_uu]
  exact br_t rfl hp
theorem yy_15 {post : SY → Prop} {t h0 : Nat} (ht : t < 5) (hh : ytp t = nI (h0 + 2)) (h6 : h0 < 5) (hp : post (ylim, ev, wa, rf, nI (t + 1), yend, yans, yrest, ybeg, yres, yused, ycalls, yver, ykept, yop, ybs, len, st, cps, old, bef, ywm, wcp, ecp, mcp, rcp, evl, yms, ysf, ycl, yam, yar, ygv, yel, yat, upd ytp t (nI (h0 + 2)), upd (upd stk (6 * t + h0) (stk (6 * t + h0 + 1))) (6 * t + (h0 + 1)) (stk (6 * t + h0)))) : wpY_onStack post (ylim, ev, wa, rf, nI (t + 1), yend, yans, yrest, ybeg, yres, yused, ycalls, yver, ykept, yop, ybs, len, st, cps, old, bef, ywm, wcp, ecp, mcp, rcp, evl, yms, ysf, ycl, yam, yar, ygv, yel, yat, ytp, stk) (nI 15) := by
  unfold wpY_onStack
  refine br_f (by decide) (yw_pop (h := h0 + 1) ht hh (by omega) (br_f (by decide) ?_))
  unfold wY_onStack_28
  refine br_f (by decide) (br_f (by decide) (br_f (by decide) (yw_pop ht pk_us (by omega) (br_t rfl (yw_push ht pk_us (by omega) (yw_push (h := h0 + 1) ht pk_us (by omega) ?_))))))
  rw [ce_uu, ce_uu, ce_uu]
  exact hp
theorem yy_8 {post : SY → Prop} {t h0 : Nat} (ht : t < 5) (hh : ytp t = nI (h0 + 2)) (h6 : h0 < 5) (hp : post (ylim, ev, wa, rf, nI (t + 1), yend, yans, yrest, ybeg, yres, yused, ycalls, yver, ykept, yop, ybs, len, st, cps, old, bef, ywm, wcp, ecp, mcp, rcp, evl, yms, ysf, ycl, yam, yar, ygv, yel, yat, upd ytp t (nI (h0 + 1)), upd stk (6 * t + h0) (ce_cmb 8 (stk (6 * t + h0)) (stk (6 * t + h0 + 1))))) : wpY_onStack post (ylim, ev, wa, rf, nI (t + 1), yend, yans, yrest, ybeg, yres, yused, ycalls, yver, ykept, yop, ybs, len, st, cps, old, bef, ywm, wcp, ecp, mcp, rcp, evl, yms, ysf, ycl, yam, yar, ygv, yel, yat, ytp, stk) (nI 8) := by
  unfold wpY_onStack
  refine br_f (by decide) (yw_pop (h := h0 + 1) ht hh (by omega) (br_f (by decide) ?_))
  unfold wY_onStack_28 wY_onStack_137
  refine br_f (by decide) (br_f (by decide) (br_f (by decide) (yw_pop ht pk_us (by omega) (br_f (by decide) ?_))))
  refine br_t rfl (yw_push ht pk_us (by omega) ?_)
  rw [ce_uu, ce_uu]
  exact hp
theorem yy_9 {post : SY → Prop} {t h0 : Nat} (ht : t < 5) (hh : ytp t = nI (h0 + 2)) (h6 : h0 < 5) (hp : post (ylim, ev, wa, rf, nI (t + 1), yend, yans, yrest, ybeg, yres, yused, ycalls, yver, ykept, yop, ybs, len, st, cps, old, bef, ywm, wcp, ecp, mcp, rcp, evl, yms, ysf, ycl, yam, yar, ygv, yel, yat, upd ytp t (nI (h0 + 1)), upd stk (6 * t + h0) (ce_cmb 9 (stk (6 * t + h0)) (stk (6 * t + h0 + 1))))) : wpY_onStack post (ylim, ev, wa, rf, nI (t + 1), yend, yans, yrest, ybeg, yres, yused, ycalls, yver, ykept, yop, ybs, len, st, cps, old, bef, ywm, wcp, ecp, mcp, rcp, evl, yms, ysf, ycl, yam, yar, ygv, yel, yat, ytp, stk) (nI 9) := by
  unfold wpY_onStack
  refine br_f (by decide) (yw_pop (h := h0 + 1) ht hh (by omega) (br_f (by decide) ?_))
  unfold wY_onStack_28 wY_onStack_137
  refine br_f (by decide) (br_f (by decide) (br_f (by decide) (yw_pop ht pk_us (by omega) (br_f (by decide) ?_))))
  refine br_f (by decide) (br_t rfl (yw_push ht pk_us (by omega) ?_))
  rw [ce_uu, ce_uu]
  exact hp
theorem yy_10 {post : SY → Prop} {t h0 : Nat} (ht : t < 5) (hh : ytp t = nI (h0 + 2)) (h6 : h0 < 5) (hp : post (ylim, ev, wa, rf, nI (t + 1), yend, yans, yrest, ybeg, yres, yused, ycalls, yver, ykept, yop, ybs, len, st, cps, old, bef, ywm, wcp, ecp, mcp, rcp, evl, yms, ysf, ycl, yam, yar, ygv, yel, yat, upd ytp t (nI (h0 + 1)), upd stk (6 * t + h0) (ce_cmb 10 (stk (6 * t + h0)) (stk (6 * t + h0 + 1))))) : wpY_onStack post (ylim, ev, wa, rf, nI (t + 1), yend, yans, yrest, ybeg, yres, yused, ycalls, yver, ykept, yop, ybs, len, st, cps, old, bef, ywm, wcp, ecp, mcp, rcp, evl, yms, ysf, ycl, yam, yar, ygv, yel, yat, ytp, stk) (nI 10) := by
  unfold wpY_onStack
  refine br_f (by decide) (yw_pop (h := h0 + 1) ht hh (by omega) (br_f (by decide) ?_))
  unfold wY_onStack_28 wY_onStack_137
  refine br_f (by decide) (br_f (by decide) (br_f (by decide) (yw_pop ht pk_us (by omega) (br_f (by decide) ?_))))
  refine br_f (by decide) (br_f (by decide) (br_t rfl (yw_push ht pk_us (by omega) ?_)))
  rw [ce_uu, ce_uu]
  exact hp
theorem yy_11 {post : SY → Prop} {t h0 : Nat} (ht : t < 5) (hh : ytp t = nI (h0 + 2)) (h6 : h0 < 5) (hp : post (ylim, ev, wa, rf, nI (t + 1), yend, yans, yrest, ybeg, yres, yused, ycalls, yver, ykept, yop, ybs, len, st, cps, old, bef, ywm, wcp, ecp, mcp, rcp, evl, yms, ysf, ycl, yam, yar, ygv, yel, yat, upd ytp t (nI (h0 + 1)), upd stk (6 * t + h0) (ce_cmb 11 (stk (6 * t + h0)) (stk (6 * t + h0 + 1))))) : wpY_onStack post (ylim, ev, wa, rf, nI (t + 1), yend, yans, yrest, ybeg, yres, yused, ycalls, yver, ykept, yop, ybs, len, st, cps, old, bef, ywm, wcp, ecp, mcp, rcp, evl, yms, ysf, ycl, yam, yar, ygv, yel, yat, ytp, stk) (nI 11) := by
  unfold wpY_onStack
  refine br_f (by decide) (yw_pop (h := h0 + 1) ht hh (by omega) (br_f (by decide) ?_))
  unfold wY_onStack_28 wY_onStack_137
  refine br_f (by decide) (br_f (by decide) (br_f (by decide) (yw_pop ht pk_us (by omega) (br_f (by decide) ?_))))
  refine br_f (by decide) (br_f (by decide) (br_f (by decide) (br_t rfl (br_c (fun q => yw_push ht pk_us (by omega) ?_) (fun q => yw_push ht pk_us (by omega) ?_)))))
  · rw [show ce_cmb 11 (stk (6 * t + h0)) (stk (6 * t + h0 + 1)) = 0 from if_pos q] at hp
    rw [ce_uu, ce_uu]; exact hp
  · rw [show ce_cmb 11 (stk (6 * t + h0)) (stk (6 * t + h0 + 1)) = 1 from if_neg q] at hp
    rw [ce_uu, ce_uu]; exact hp
theorem yy_12 {post : SY → Prop} {t h0 : Nat} (ht : t < 5) (hh : ytp t = nI (h0 + 2)) (h6 : h0 < 5) (hp : post (ylim, ev, wa, rf, nI (t + 1), yend, yans, yrest, ybeg, yres, yused, ycalls, yver, ykept, yop, ybs, len, st, cps, old, bef, ywm, wcp, ecp, mcp, rcp, evl, yms, ysf, ycl, yam, yar, ygv, yel, yat, upd ytp t (nI (h0 + 1)), upd stk (6 * t + h0) (ce_cmb 12 (stk (6 * t + h0)) (stk (6 * t + h0 + 1))))) : wpY_onStack post (ylim, ev, wa, rf, nI (t + 1), yend, yans, yrest, ybeg, yres, yused, ycalls, yver, ykept, yop, ybs, len, st, cps, old, bef, ywm, wcp, ecp, mcp, rcp, evl, yms, ysf, ycl, yam, yar, ygv, yel, yat, ytp, stk) (nI 12) := by
  unfold wpY_onStack
  refine br_f (by decide) (yw_pop (h := h0 + 1) ht hh (by omega) (br_f (by decide) ?_))
  unfold wY_onStack_28 wY_onStack_137
  refine br_f (by decide) (br_f (by decide) (br_f (by decide) (yw_pop ht pk_us (by omega) (br_f (by decide) ?_))))
  refine br_f (by decide) (br_f (by decide) (br_f (by decide) (br_f (by decide) (br_c (fun q => yw_push ht pk_us (by omega) ?_) (fun q => yw_push ht pk_us (by omega) ?_)))))
  · rw [show ce_cmb 12 (stk (6 * t + h0)) (stk (6 * t + h0 + 1)) = 1 from if_pos q] at hp
    rw [ce_uu, ce_uu]; exact hp
  · rw [show ce_cmb 12 (stk (6 * t + h0)) (stk (6 * t + h0 + 1)) = 0 from if_neg q] at hp
    rw [ce_uu, ce_uu]; exact hp
theorem yy_22 {post : SY → Prop} {t h0 : Nat} {b : Int32} (ht : t < 5) (hh : ytp t = nI h0) (h6 : h0 < 6) (hp : post (ylim, ev, wa, rf, nI (t + 1), yend, yans, yrest, ybeg, yres, yused, ycalls, yver, ykept, yop, ybs, len, st, cps, old, bef, ywm, wcp, ecp, mcp, rcp, evl, yms, ysf, ycl, yam, yar, ygv, yel, yat, upd ytp t (nI (h0 + 1)), upd stk (6 * t + h0) (yel t))) : wpY_other post (ylim, ev, wa, rf, nI (t + 1), yend, yans, yrest, ybeg, yres, yused, ycalls, yver, ykept, yop, ybs, len, st, cps, old, bef, ywm, wcp, ecp, mcp, rcp, evl, yms, ysf, ycl, yam, yar, ygv, yel, yat, ytp, stk) (nI 22) b := by
  unfold wpY_other
  refine nm_r (nI_pred t) (br_t rfl ?_)
  rw [ce_cl (t := t) (by omega)]
  exact ⟨ce_in ht, yw_push ht hh h6 hp⟩
theorem yy_21n {post : SY → Prop} {t h0 E : Nat} {b : Int32} (ht : t < 5) (hh : ytp t = nI (h0 + 1)) (h6 : h0 < 6) (hE : E = 20) (hp : post (ylim, nI E, wa, rf, nI (t + 1), yend, yans, yrest, ybeg, yres, yused, ycalls, yver, ykept, yop, ybs, len, st, cps, old, bef, ywm, wcp, ecp, mcp, rcp, evl, yms, ysf, ycl, yam, yar, ygv, yel, yat, upd ytp t (nI h0), stk)) : wpY_other post (ylim, nI E, wa, rf, nI (t + 1), yend, yans, yrest, ybeg, yres, yused, ycalls, yver, ykept, yop, ybs, len, st, cps, old, bef, ywm, wcp, ecp, mcp, rcp, evl, yms, ysf, ycl, yam, yar, ygv, yel, yat, ytp, stk) (nI 21) b := by
  subst hE
  unfold wpY_other
  exact nm_r (nI_pred t) (br_f (by decide) (br_t rfl (yw_pop ht hh h6 (br_t (by decide) hp))))
theorem yy_21y {post : SY → Prop} {t h0 E : Nat} {b : Int32} (ht : t < 5) (hh : ytp t = nI (h0 + 1)) (h6 : h0 < 6) (hE : E < 20) (hp : post (ylim, nI (E + 1), wa, rf, nI (t + 1), yend, yans, yrest, ybeg, yres, yused, ycalls, yver, ykept, yop, ybs, len, st, cps, old, bef, ywm, wcp, ecp, mcp, rcp, ce_e3 evl E (ysf t) b (stk (6 * t + h0)), yms, ysf, ycl, yam, yar, ygv, yel, yat, upd ytp t (nI h0), stk)) : wpY_other post (ylim, nI E, wa, rf, nI (t + 1), yend, yans, yrest, ybeg, yres, yused, ycalls, yver, ykept, yop, ybs, len, st, cps, old, bef, ywm, wcp, ecp, mcp, rcp, evl, yms, ysf, ycl, yam, yar, ygv, yel, yat, ytp, stk) (nI 21) b := by
  unfold wpY_other
  refine nm_r (nI_pred t) (br_f (by decide) (br_t rfl (yw_pop ht hh h6 (br_f (nI_ge (b := 20) hE (by decide)) ?_))))
  rw [ce_mL3, nI_1 (3 * E), ce_a2 (3 * E), nI_1 E, ce_cl (t := t) (by omega), ce_cl (t := 3 * E) (by omega), ce_cl (t := 3 * E + 1) (by omega), ce_cl (t := 3 * E + 2) (by omega)]
  exact ⟨ce_in ht, ce_in (by omega), nm_e ⟨ce_in (by omega), nm_e (nm_e ⟨ce_in (by omega), nm_e hp⟩)⟩⟩
theorem yy_23n {post : SY → Prop} {t h0 W : Nat} {b : Int32} (ht : t < 5) (hh : ytp t = nI (h0 + 3)) (h6 : h0 < 4) (hW : W ≤ 6) (hn : W = 6 ∨ stk (6 * t + h0) < 0 ∨ nI 6 ≤ stk (6 * t + h0)) (hp : post (ylim, ev, nI W, rf, nI (t + 1), yend, yans, yrest, ybeg, yres, yused, ycalls, yver, ykept, yop, ybs, len, st, cps, old, bef, ywm, wcp, ecp, mcp, rcp, evl, yms, ysf, ycl, yam, yar, ygv, yel, yat, upd ytp t (nI h0), stk)) : wpY_other post (ylim, ev, nI W, rf, nI (t + 1), yend, yans, yrest, ybeg, yres, yused, ycalls, yver, ykept, yop, ybs, len, st, cps, old, bef, ywm, wcp, ecp, mcp, rcp, evl, yms, ysf, ycl, yam, yar, ygv, yel, yat, ytp, stk) (nI 23) b := by
  unfold wpY_other
  refine nm_r (nI_pred t) (br_f (by decide) (br_f (by decide) (yw_pop (h := h0 + 2) ht hh (by omega) (yw_pop (h := h0 + 1) ht pk_us (by omega) (yw_pop (h := h0) ht pk_us (by omega) ?_)))))
  rw [ce_uu, ce_uu]
  refine br_t rfl ⟨ce_in ht, ?_⟩
  unfold wpY_send
  refine pk_eq W 6 (fun _ => hp) (fun n => ?_)
  exact yw_accF (hn.resolve_left n) (br_t rfl hp)
theorem yy_23y {post : SY → Prop} {t h0 W a : Nat} {b : Int32} (ht : t < 5) (hh : ytp t = nI (h0 + 3)) (h6 : h0 < 4) (hW : W < 6) (ha : a < 6) (hs : stk (6 * t + h0) = nI a) (hp : post (ylim, ev, nI (W + 1), rf, nI (t + 1), yend, yans, yrest, ybeg, yres, yused, ycalls, yver, ykept, yop, ybs, len, st, cps, old, bef, ywm, wcp, ecp, mcp, rcp, evl, ce_m4 yms W (nI a) (stk (6 * t + h0 + 1)) (stk (6 * t + h0 + 2)) (ysf t), ysf, ycl, yam, yar, ygv, yel, yat, upd ytp t (nI h0), stk)) : wpY_other post (ylim, ev, nI W, rf, nI (t + 1), yend, yans, yrest, ybeg, yres, yused, ycalls, yver, ykept, yop, ybs, len, st, cps, old, bef, ywm, wcp, ecp, mcp, rcp, evl, yms, ysf, ycl, yam, yar, ygv, yel, yat, ytp, stk) (nI 23) b := by
  unfold wpY_other
  refine nm_r (nI_pred t) (br_f (by decide) (br_f (by decide) (yw_pop (h := h0 + 2) ht hh (by omega) (yw_pop (h := h0 + 1) ht pk_us (by omega) (yw_pop (h := h0) ht pk_us (by omega) ?_)))))
  rw [ce_uu, ce_uu]
  rw [ce_cl (t := t) (by omega)]
  refine br_t rfl ⟨ce_in ht, ?_⟩
  rw [hs]
  unfold wpY_send
  refine pk_eq W 6 (fun q => absurd q (by omega)) (fun n => yw_accT ha (br_f (by decide) ?_))
  rw [ce_mL4, nI_1 (4 * W), ce_a2 (4 * W), ce_a3 (4 * W), nI_1 W, ce_cl (t := 4 * W) (by omega), ce_cl (t := 4 * W + 1) (by omega), ce_cl (t := 4 * W + 2) (by omega), ce_cl (t := 4 * W + 3) (by omega)]
  exact ⟨ce_in (by omega), nm_e ⟨ce_in (by omega), nm_e ⟨ce_in (by omega), nm_e (nm_e ⟨ce_in (by omega), nm_e hp⟩)⟩⟩⟩
end
end
section
section
variable {xlim xps xvn xkc ev wa wm rf dp ea er lr lu lc ylim yend yans yrest ybeg yres yused ycalls yver ykept : Int32} {xop xnum len st vers evl xms own clr amt arg eg el pos hgt stk sst sev sw swm srf yop ybs cps old bef ywm wcp ecp mcp rcp yms ysf ycl yam yar ygv yel yat ytp : Nat → Int32}
theorem ce_ui (f : Nat → Int32) (k : Nat) : upd f k (f k) = f := by
  funext j; unfold upd
  by_cases h : j = k
  · rw [if_pos h, h]
  · rw [if_neg h]
def ce_en (b : Int32) (e : Nat) : Nat := if b ≤ 0 then e else if nI e ≤ b then e else b.toNatClampNeg
theorem ce_en_le {b : Int32} {e : Nat} (he : e ≤ 1000) : ce_en b e ≤ e := by
  unfold ce_en
  by_cases h : b ≤ 0
  · rw [if_pos h]; exact Nat.le_refl _
  · rw [if_neg h]
    by_cases h2 : nI e ≤ b
    · rw [if_pos h2]; exact Nat.le_refl _
    · rw [if_neg h2]
      rcases pk_ix b (n := e) (by omega) with q | q | ⟨j, hj, rfl⟩
      · exact absurd (Int32.le_of_lt q) h
      · exact absurd q h2
      · rw [ce_cl (by omega)]; omega
theorem ce_en_3 {b : Int32} {e : Nat} (he : e ≤ 1000) (h : ¬ b ≤ 0) (h2 : ¬ nI e ≤ b) : b = nI (ce_en b e) := by
  unfold ce_en
  rw [if_neg h, if_neg h2]
  rcases pk_ix b (n := e) (by omega) with q | q | ⟨j, hj, rfl⟩
  · exact absurd (Int32.le_of_lt q) h
  · exact absurd q h2
  · rw [ce_cl (by omega)]
theorem ce_en_1 {b : Int32} {e : Nat} (h : b ≤ 0) : ce_en b e = e := by unfold ce_en; rw [if_pos h]
theorem ce_en_2 {b : Int32} {e : Nat} (h : ¬ b ≤ 0) (h2 : nI e ≤ b) : ce_en b e = e := by unfold ce_en; rw [if_neg h, if_pos h2]
/-! the component's call -/
theorem xc_64 {post : SX → Prop} {t h0 : Nat} (ht : t < 5) (hh : hgt t = nI h0) (h6 : h0 ≤ 4) (hp : post (xlim, xps, xvn, xkc, ev, wa, wm, rf, nI (t + 1), ea, er, lr, lu, lc, xop, xnum, len, st, vers, evl, xms, own, clr, amt, arg, eg, el, pos, upd hgt t (nI (h0 + 2)), upd (upd stk (6 * t + h0) 0) (6 * t + (h0 + 1)) 0, sst, sev, sw, swm, srf)) : wX_callOther_64 post (xlim) (xps) (xvn) (xkc) (ev) (wa) (wm) (rf) (nI (t + 1)) (ea) (er) (lr) (lu) (lc) (xop) (xnum) (len) (st) (vers) (evl) (xms) (own) (clr) (amt) (arg) (eg) (el) (pos) (hgt) (stk) (sst) (sev) (sw) (swm) (srf) := by
  unfold wX_callOther_64
  refine xw_push ht hh (by omega) (xw_push (h := h0 + 1) ht pk_us (by omega) ?_)
  rw [ce_uu]
  exact hp
theorem xc_no {post : SX → Prop} {t h0 : Nat} {b : Int32} (ht : t < 5) (hh : hgt t = nI h0) (h6 : h0 < 4) (hn : stk (6 * t + h0) < 0 ∨ nI 6 ≤ stk (6 * t + h0)) (hp : post (xlim, xps, xvn, xkc, ev, wa, wm, rf, nI (t + 1), ea, er, lr, lu, lc, xop, xnum, len, st, vers, evl, xms, own, clr, amt, arg, eg, el, pos, upd hgt t (nI (h0 + 2)), upd (upd stk (6 * t + h0) 0) (6 * t + (h0 + 1)) 0, sst, sev, sw, swm, srf)) : wpX_callOther post (xlim, xps, xvn, xkc, ev, wa, wm, rf, nI (t + 1), ea, er, lr, lu, lc, xop, xnum, len, st, vers, evl, xms, own, clr, amt, arg, eg, el, pos, hgt, stk, sst, sev, sw, swm, srf) b (nI (6 * t + h0)) := by
  unfold wpX_callOther
  refine nm_r (nI_pred t) ⟨ce_in ht, nm_e ⟨ce_in (by omega), nm_r (congrArg stk (ce_cl (by omega))) ?_⟩⟩
  rw [nI_1 (6 * t + h0), ce_a2 (6 * t + h0)]
  exact ⟨ce_in (by omega), nm_e ⟨ce_in (by omega), nm_e (xw_accF hn (br_t rfl (xc_64 ht hh (by omega) hp)))⟩⟩
theorem xc_acc {post : SX → Prop} {t h0 a a' : Nat} {b am ar : Int32} (ht : t < 5) (h6 : h0 < 4) (hown : own t = nI a) (ha : a < 6) (hs : stk (6 * t + h0) = nI a') (ha' : a' < 6) (ham : stk (6 * t + h0 + 1) = am) (har : stk (6 * t + h0 + 2) = ar)
    (h1 : ce_DN st (t + 1) (nI a) a' am → wX_callOther_64 post (xlim) (xps) (xvn) (xkc) (ev) (wa) (wm) (rf) (nI (t + 1)) (ea) (er) (lr) (lu) (lc) (xop) (xnum) (len) (st) (vers) (evl) (xms) (own) (clr) (amt) (arg) (eg) (el) (pos) (hgt) (stk) (sst) (sev) (sw) (swm) (srf))
    (h0' : ¬ ce_DN st (t + 1) (nI a) a' am → (b ≤ 0 → wX_callOther_97 post (nI a) (nI a') am ar (el t) (xlim) (xps) (xvn) (xkc) (ev) (wa) (wm) (rf) (nI (t + 1)) (ea) (er) (lr) (lu) (lc) (xop) (xnum) (len) (st) (vers) (evl) (xms) (own) (clr) (amt) (arg) (eg) (el) (pos) (hgt) (stk) (sst) (sev) (sw) (swm) (srf)) ∧ (¬ b ≤ 0 → (el t ≤ b → wX_callOther_97 post (nI a) (nI a') am ar (el t) (xlim) (xps) (xvn) (xkc) (ev) (wa) (wm) (rf) (nI (t + 1)) (ea) (er) (lr) (lu) (lc) (xop) (xnum) (len) (st) (vers) (evl) (xms) (own) (clr) (amt) (arg) (eg) (el) (pos) (hgt) (stk) (sst) (sev) (sw) (swm) (srf)) ∧ (¬ el t ≤ b → wX_callOther_99 post (nI a) (nI a') am ar b (xlim) (xps) (xvn) (xkc) (ev) (wa) (wm) (rf) (nI (t + 1)) (ea) (er) (lr) (lu) (lc) (xop) (xnum) (len) (st) (vers) (evl) (xms) (own) (clr) (amt) (arg) (eg) (el) (pos) (hgt) (stk) (sst) (sev) (sw) (swm) (srf)))) : wpX_callOther post (xlim, xps, xvn, xkc, ev, wa, wm, rf, nI (t + 1), ea, er, lr, lu, lc, xop, xnum, len, st, vers, evl, xms, own, clr, amt, arg, eg, el, pos, hgt, stk, sst, sev, sw, swm, srf) b (nI (6 * t + h0)) := by
  unfold wpX_callOther
  refine nm_r (nI_pred t) ⟨ce_in ht, nm_r ((congrArg own (ce_cl (by omega))).trans hown) ⟨ce_in (by omega), nm_r ((congrArg stk (ce_cl (by omega))).trans hs) ?_⟩⟩
  rw [nI_1 (6 * t + h0), ce_a2 (6 * t + h0)]
  refine ⟨ce_in (by omega), nm_r ((congrArg stk (ce_cl (by omega))).trans ham) ⟨ce_in (by omega), nm_r ((congrArg stk (ce_cl (by omega))).trans har) (xw_accT ha' (br_f (by decide) (xw_den (by omega) (Or.inr ⟨a, ha, rfl⟩) ha' (fun q => br_f (by decide) (h1 q)) (fun q => br_t rfl ?_))))⟩⟩
  rw [ce_cl (t := t) (by omega)]
  exact ⟨ce_in ht, nm_e (h0' q)⟩
theorem xc_den {post : SX → Prop} {t h0 a a' : Nat} {b am : Int32} (ht : t < 5) (hh : hgt t = nI h0) (h6 : h0 < 4) (hown : own t = nI a) (ha : a < 6) (hs : stk (6 * t + h0) = nI a') (ha' : a' < 6) (ham : stk (6 * t + h0 + 1) = am) (hD : ce_DN st (t + 1) (nI a) a' am) (hp : post (xlim, xps, xvn, xkc, ev, wa, wm, rf, nI (t + 1), ea, er, lr, lu, lc, xop, xnum, len, st, vers, evl, xms, own, clr, amt, arg, eg, el, pos, upd hgt t (nI (h0 + 2)), upd (upd stk (6 * t + h0) 0) (6 * t + (h0 + 1)) 0, sst, sev, sw, swm, srf)) : wpX_callOther post (xlim, xps, xvn, xkc, ev, wa, wm, rf, nI (t + 1), ea, er, lr, lu, lc, xop, xnum, len, st, vers, evl, xms, own, clr, amt, arg, eg, el, pos, hgt, stk, sst, sev, sw, swm, srf) b (nI (6 * t + h0)) :=
  xc_acc ht h6 hown ha hs ha' ham rfl (fun _ => xc_64 ht hh (by omega) hp) (fun n => absurd hD n)
theorem xc_opn {post : SX → Prop} {t h0 a a' e : Nat} {b am ar : Int32} (ht : t < 5) (h6 : h0 < 4) (hown : own t = nI a) (ha : a < 6) (hs : stk (6 * t + h0) = nI a') (ha' : a' < 6) (ham : stk (6 * t + h0 + 1) = am) (har : stk (6 * t + h0 + 2) = ar) (hel : el t = nI e) (he : e ≤ 1000) (hD : ¬ ce_DN st (t + 1) (nI a) a' am)
    (hp : post (xlim, xps, xvn, xkc, ev, wa, wm, rf, nI (t + 1 + 1), ea, er, lr, lu, lc + 1, xop, xnum, len, ce_mv st (nI a) a' am, vers, evl, xms, upd own (t + 1) (nI a'), upd clr (t + 1) (nI a), upd amt (t + 1) am, upd arg (t + 1) ar, upd eg (t + 1) (nI (ce_en b e)), upd el (t + 1) (nI (ce_en b e)), upd pos (t + 1) 0, upd hgt (t + 1) 0, stk, ce_cp sst (30 * (t + 1)) 30 st, upd sev (t + 1) ev, upd sw (t + 1) wa, upd swm (t + 1) wm, upd srf (t + 1) rf)) : wpX_callOther post (xlim, xps, xvn, xkc, ev, wa, wm, rf, nI (t + 1), ea, er, lr, lu, lc, xop, xnum, len, st, vers, evl, xms, own, clr, amt, arg, eg, el, pos, hgt, stk, sst, sev, sw, swm, srf) b (nI (6 * t + h0)) := by
  have h5 : t + 1 < 5 := by
    have : t + 1 ≠ 5 := fun q => hD (Or.inr (Or.inl q))
    omega
  have op : ∀ P : SX → Prop, P (xlim, xps, xvn, xkc, ev, wa, wm, rf, nI (t + 1 + 1), ea, er, lr, lu, lc + 1, xop, xnum, len, ce_mv st (nI a) a' am, vers, evl, xms, upd own (t + 1) (nI a'), upd clr (t + 1) (nI a), upd amt (t + 1) am, upd arg (t + 1) ar, upd eg (t + 1) (nI (ce_en b e)), upd el (t + 1) (nI (ce_en b e)), upd pos (t + 1) 0, upd hgt (t + 1) 0, stk, ce_cp sst (30 * (t + 1)) 30 st, upd sev (t + 1) ev, upd sw (t + 1) wa, upd swm (t + 1) wm, upd srf (t + 1) rf) → wpX_open P (xlim, xps, xvn, xkc, ev, wa, wm, rf, nI (t + 1), ea, er, lr, lu, lc, xop, xnum, len, st, vers, evl, xms, own, clr, amt, arg, eg, el, pos, hgt, stk, sst, sev, sw, swm, srf) (nI a) (nI a') am ar (nI (ce_en b e)) := fun P h => xw_open h5 (Or.inr ⟨a, ha, rfl⟩) ha' h
  refine xc_acc ht h6 hown ha hs ha' ham har (fun q => absurd q hD) (fun _ => ?_)
  rw [hel]
  refine br_c (fun q => ?_) (fun q => br_c (fun q2 => ?_) (fun q2 => ?_))
  · unfold wX_callOther_97 wX_callOther_99
    rw [ce_en_1 q] at op hp
    exact op _ hp
  · unfold wX_callOther_97 wX_callOther_99
    rw [ce_en_2 q q2] at op hp
    exact op _ hp
  · unfold wX_callOther_99
    rw [← ce_en_3 he q q2] at op hp
    exact op _ hp
/-! the reference's call -/
theorem yc_no {post : SY → Prop} {t h0 : Nat} {b : Int32} (ht : t < 5) (hh : ytp t = nI (h0 + 3)) (h6 : h0 < 4) (hn : stk (6 * t + h0) < 0 ∨ nI 6 ≤ stk (6 * t + h0)) (hp : post (ylim, ev, wa, rf, nI (t + 1), yend, yans, yrest, ybeg, yres, yused, ycalls, yver, ykept, yop, ybs, len, st, cps, old, bef, ywm, wcp, ecp, mcp, rcp, evl, yms, ysf, ycl, yam, yar, ygv, yel, yat, upd ytp t (nI (h0 + 2)), upd (upd stk (6 * t + h0) 0) (6 * t + (h0 + 1)) 0)) : wpY_other post (ylim, ev, wa, rf, nI (t + 1), yend, yans, yrest, ybeg, yres, yused, ycalls, yver, ykept, yop, ybs, len, st, cps, old, bef, ywm, wcp, ecp, mcp, rcp, evl, yms, ysf, ycl, yam, yar, ygv, yel, yat, ytp, stk) (nI 18) b := by
  unfold wpY_other
  refine nm_r (nI_pred t) (br_f (by decide) (br_f (by decide) (yw_pop (h := h0 + 2) ht hh (by omega) (yw_pop (h := h0 + 1) ht pk_us (by omega) (yw_pop (h := h0) ht pk_us (by omega) ?_)))))
  rw [ce_uu, ce_uu]
  refine br_f (by decide) (yw_accF hn (br_t rfl (yw_push ht pk_us (by omega) (yw_push (h := h0 + 1) ht pk_us (by omega) ?_))))
  rw [ce_uu, ce_uu]
  exact hp
theorem yc_pre {post : SY → Prop} {t h0 a' e : Nat} {b am ar : Int32} (ht : t < 5) (hh : ytp t = nI (h0 + 3)) (h6 : h0 < 4) (hs : stk (6 * t + h0) = nI a') (ha' : a' < 6) (ham : stk (6 * t + h0 + 1) = am) (har : stk (6 * t + h0 + 2) = ar) (hel : yel t = nI e) (he : e ≤ 1000) (hp : wY_other_191 post (nI t) ar am (nI a') (nI (ce_en b e)) (ylim) (ev) (wa) (rf) (nI (t + 1)) (yend) (yans) (yrest) (ybeg) (yres) (yused) (ycalls) (yver) (ykept) (yop) (ybs) (len) (st) (cps) (old) (bef) (ywm) (wcp) (ecp) (mcp) (rcp) (evl) (yms) (ysf) (ycl) (yam) (yar) (ygv) (yel) (yat) (upd ytp t (nI h0)) (stk)) : wpY_other post (ylim, ev, wa, rf, nI (t + 1), yend, yans, yrest, ybeg, yres, yused, ycalls, yver, ykept, yop, ybs, len, st, cps, old, bef, ywm, wcp, ecp, mcp, rcp, evl, yms, ysf, ycl, yam, yar, ygv, yel, yat, ytp, stk) (nI 18) b := by
  unfold wpY_other
  refine nm_r (nI_pred t) (br_f (by decide) (br_f (by decide) (yw_pop (h := h0 + 2) ht hh (by omega) (yw_pop (h := h0 + 1) ht pk_us (by omega) (yw_pop (h := h0) ht pk_us (by omega) ?_)))))
  rw [ce_uu, ce_uu, hs, show stk (6 * t + (h0 + 1)) = am from ham, show stk (6 * t + (h0 + 2)) = ar from har, ce_cl (t := t) (by omega)]
  refine br_f (by decide) (yw_accT ha' (br_f (by decide) ?_))
  rw [hel]
  refine br_c (fun q => ?_) (fun q => ⟨ce_in ht, br_c (fun q2 => ?_) (fun q2 => ?_)⟩)
  · unfold wY_other_185
    rw [ce_cl (t := t) (by omega), hel]
    rw [ce_en_1 q] at hp
    exact ⟨ce_in ht, hp⟩
  · unfold wY_other_185
    rw [ce_cl (t := t) (by omega), hel]
    rw [ce_en_2 q q2] at hp
    exact ⟨ce_in ht, hp⟩
  · rw [← ce_en_3 he q q2] at hp
    exact hp
theorem yc_den {post : SY → Prop} {t h0 a a' n : Nat} {am ar : Int32} (ht : t < 5) (hown : ysf t = nI a) (ha : a < 6) (ha' : a' < 6) (h6 : h0 ≤ 4) (hh : ytp t = nI h0) (hB : ce_BL st) (hD : ce_DN st (t + 1) (nI a) a' am) (hp : post (ylim, ev, wa, rf, nI (t + 1), 4, 0, nI n, ybeg, yres, yused, ycalls, yver, ykept, yop, ybs, len, st, cps, old, bef, ywm, wcp, ecp, mcp, rcp, evl, yms, ysf, ycl, yam, yar, ygv, yel, yat, upd ytp t (nI (h0 + 2)), upd (upd stk (6 * t + h0) 0) (6 * t + (h0 + 1)) 0)) : wY_other_191 post (nI t) ar am (nI a') (nI n) (ylim) (ev) (wa) (rf) (nI (t + 1)) (yend) (yans) (yrest) (ybeg) (yres) (yused) (ycalls) (yver) (ykept) (yop) (ybs) (len) (st) (cps) (old) (bef) (ywm) (wcp) (ecp) (mcp) (rcp) (evl) (yms) (ysf) (ycl) (yam) (yar) (ygv) (yel) (yat) (ytp) (stk) := by
  unfold wY_other_191
  rw [ce_cl (t := t) (by omega), hown]
  refine ⟨ce_in ht, yb_den (by omega) (Or.inr ⟨a, ha, rfl⟩) ha' hB hD (br_t rfl (yw_give ht hh h6 ?_))⟩
  rw [Int32.sub_zero, ce_ui]
  exact hp
theorem yc_emp {post : SY → Prop} {t h0 a a' n : Nat} {am ar : Int32} (ht : t < 5) (hown : ysf t = nI a) (ha : a < 6) (ha' : a' < 6) (h6 : h0 ≤ 4) (hh : ytp t = nI h0) (hB : ce_BL st) (hD : ¬ ce_DN st (t + 1) (nI a) a' am) (hL : len a' = nI 0) (hw : ∀ j, j < 24 → vp_nar .boolean (ywm j) = ywm j) (hp : post (ylim, ev, wa, rf, nI (t + 1), 0, 0, nI n, ybeg + 1, yres, yused, ycalls, yver, ykept, yop, ybs, len, ce_mv st (nI a) a' am, cps, old, bef, ywm, wcp, ecp, mcp, rcp, evl, yms, ysf, ycl, yam, yar, ygv, yel, yat, upd ytp t (nI (h0 + 2)), upd (upd stk (6 * t + h0) 0) (6 * t + (h0 + 1)) 1)) : wY_other_191 post (nI t) ar am (nI a') (nI n) (ylim) (ev) (wa) (rf) (nI (t + 1)) (yend) (yans) (yrest) (ybeg) (yres) (yused) (ycalls) (yver) (ykept) (yop) (ybs) (len) (st) (cps) (old) (bef) (ywm) (wcp) (ecp) (mcp) (rcp) (evl) (yms) (ysf) (ycl) (yam) (yar) (ygv) (yel) (yat) (ytp) (stk) := by
  unfold wY_other_191
  rw [ce_cl (t := t) (by omega), hown]
  refine ⟨ce_in ht, yb_ok (by omega) (Or.inr ⟨a, ha, rfl⟩) ha' hB hD hL (by omega) hw (fun _ => br_t rfl (yw_give ht hh h6 ?_)) (fun q => absurd q (by omega))⟩
  rw [Int32.sub_zero, ce_ui]
  exact hp
theorem yc_run {post : SY → Prop} {t a a' n L : Nat} {am ar : Int32} (ht : t < 5) (hown : ysf t = nI a) (ha : a < 6) (ha' : a' < 6) (hB : ce_BL st) (hD : ¬ ce_DN st (t + 1) (nI a) a' am) (hL : len a' = nI L) (h0L : 0 < L) (hl : L ≤ 24) (hw : ∀ j, j < 24 → vp_nar .boolean (ywm j) = ywm j) (hp : post (ylim, ev, wa, rf, nI (t + 1 + 1), 0, 0, nI n, ybeg + 1, yres, yused, ycalls, yver, ykept, yop, ybs, len, ce_mv st (nI a) a' am, ce_cp cps (30 * (t + 1)) 30 st, old, bef, ywm, ce_cp wcp (24 * (t + 1)) 24 ywm, upd ecp (t + 1) ev, upd mcp (t + 1) wa, upd rcp (t + 1) rf, evl, yms, upd ysf (t + 1) (nI a'), upd ycl (t + 1) (nI a), upd yam (t + 1) am, upd yar (t + 1) ar, upd ygv (t + 1) (nI n), upd yel (t + 1) (nI n), upd yat (t + 1) 0, upd ytp (t + 1) 0, stk)) : wY_other_191 post (nI t) ar am (nI a') (nI n) (ylim) (ev) (wa) (rf) (nI (t + 1)) (yend) (yans) (yrest) (ybeg) (yres) (yused) (ycalls) (yver) (ykept) (yop) (ybs) (len) (st) (cps) (old) (bef) (ywm) (wcp) (ecp) (mcp) (rcp) (evl) (yms) (ysf) (ycl) (yam) (yar) (ygv) (yel) (yat) (ytp) (stk) := by
  unfold wY_other_191
  rw [ce_cl (t := t) (by omega), hown]
  exact ⟨ce_in ht, yb_ok (by omega) (Or.inr ⟨a, ha, rfl⟩) ha' hB hD hL hl hw (fun q => absurd q (by omega)) (fun _ => br_f (by decide) hp)⟩
end
end
section
section
variable {xlim xps xvn xkc ev wa wm rf dp ea er lr lu lc ylim yend yans yrest ybeg yres yused ycalls yver ykept : Int32} {xop xnum len st vers evl xms own clr amt arg eg el pos hgt stk sst sev sw swm srf yop ybs cps old bef ywm wcp ecp mcp rcp yms ysf ycl yam yar ygv yel yat ytp : Nat → Int32}
variable {r0 : Int32} {st0 : Nat → Int32}
theorem ce_fpc {own' ysf' pos' yat' hgt' ytp' clr' ycl' amt' yam' arg' yar' eg' ygv' el' yel' sev' ecp' sw' mcp' swm' srf' rcp' sst' cps' wcp' : Nat → Int32} {i h e g w : Nat} (H : ce_fp r0 st0 len own ysf pos yat hgt ytp clr ycl amt yam arg yar eg ygv el yel sev ecp sw mcp swm wcp srf rcp sst cps i h e g w) (e_own : own' i = own i := by first | rfl | exact pk_un (by omega)) (e_ysf : ysf' i = ysf i := by first | rfl | exact pk_un (by omega)) (e_pos : pos' i = pos i := by first | rfl | exact pk_un (by omega)) (e_yat : yat' i = yat i := by first | rfl | exact pk_un (by omega)) (e_hgt : hgt' i = hgt i := by first | rfl | exact pk_un (by omega)) (e_ytp : ytp' i = ytp i := by first | rfl | exact pk_un (by omega)) (e_clr : clr' i = clr i := by first | rfl | exact pk_un (by omega)) (e_ycl : ycl' i = ycl i := by first | rfl | exact pk_un (by omega)) (e_amt : amt' i = amt i := by first | rfl | exact pk_un (by omega)) (e_yam : yam' i = yam i := by first | rfl | exact pk_un (by omega)) (e_arg : arg' i = arg i := by first | rfl | exact pk_un (by omega)) (e_yar : yar' i = yar i := by first | rfl | exact pk_un (by omega)) (e_eg : eg' i = eg i := by first | rfl | exact pk_un (by omega)) (e_ygv : ygv' i = ygv i := by first | rfl | exact pk_un (by omega)) (e_el : el' i = el i := by first | rfl | exact pk_un (by omega)) (e_yel : yel' i = yel i := by first | rfl | exact pk_un (by omega)) (e_sev : sev' i = sev i := by first | rfl | exact pk_un (by omega)) (e_ecp : ecp' i = ecp i := by first | rfl | exact pk_un (by omega)) (e_sw : sw' i = sw i := by first | rfl | exact pk_un (by omega)) (e_mcp : mcp' i = mcp i := by first | rfl | exact pk_un (by omega)) (e_swm : swm' i = swm i := by first | rfl | exact pk_un (by omega)) (e_srf : srf' i = srf i := by first | rfl | exact pk_un (by omega)) (e_rcp : rcp' i = rcp i := by first | rfl | exact pk_un (by omega)) (e_sst : ∀ x, x < 30 → sst' (30 * i + x) = sst (30 * i + x) := by first | exact fun _ _ => rfl | exact fun _ _ => ce_cpo (by omega)) (e_cps : ∀ x, x < 30 → cps' (30 * i + x) = cps (30 * i + x) := by first | exact fun _ _ => rfl | exact fun _ _ => ce_cpo (by omega)) (e_wcp : ∀ x, x < 24 → wcp' (24 * i + x) = wcp (24 * i + x) := by first | exact fun _ _ => rfl | exact fun _ _ => ce_cpo (by omega)) : ce_fp r0 st0 len own' ysf' pos' yat' hgt' ytp' clr' ycl' amt' yam' arg' yar' eg' ygv' el' yel' sev' ecp' sw' mcp' swm' wcp' srf' rcp' sst' cps' i h e g w := by
  obtain ⟨⟨a, p, L, b1, b2, b3, b4, b5, b6, b7, b8, b9, b10, b11, b12, b13⟩, c1, c2, c3, c4, c5, ⟨s, c6, c7, c8⟩, c9, c10, c11, c12, c13, c14, c15, c16⟩ := H
  refine ⟨⟨a, p, L, b1, e_own.trans b2, e_ysf.trans b3, b4, b5, b6, e_pos.trans b7, e_yat.trans b8, e_hgt.trans b9, e_ytp.trans b10, ?_, ?_, ?_⟩, e_el.trans c1, e_yel.trans c2, e_eg.trans c3, e_ygv.trans c4, c5, ⟨s, c6, e_sev.trans c7, e_ecp.trans c8⟩, e_sw.trans c9, e_mcp.trans c10, c11, ?_, ?_, ?_, ?_, ?_⟩
  · rw [e_clr, e_ycl, b11]
  · rw [e_amt, e_yam, b12]
  · rw [e_arg, e_yar, b13]
  · rw [e_srf, e_rcp, c12]
  · intro j hj; rw [e_sst j hj, e_cps j hj]; exact c13 j hj
  · exact ce_BLc c14 (fun j hj => e_sst j hj)
  · rw [e_swm]; exact ce_WRc c15 (fun j hj => e_wcp j hj)
  · intro z; rw [e_srf]; exact ⟨(c16 z).1, fun j hj => (e_sst j hj).trans ((c16 z).2 j hj)⟩
/-- the relation within a run: t + 1 calls under way, m energy in all, W messages wait -/
def ce_R (xlim xps xvn xkc lr lu ylim yres yused ycalls yver ykept : Int32) (xop xnum len vers yop ybs old bef : Nat → Int32) (r0 : Int32) (st0 : Nat → Int32) (t m W : Nat) (u : SX) (v : SY) : Prop := ∃ (ev wm rf ea er lc : Int32) (st evl xms own clr amt arg eg el pos hgt stk sst sev sw swm srf : Nat → Int32), u = (xlim, xps, xvn, xkc, ev, nI W, wm, rf, nI (t + 1), ea, er, lr, lu, lc, xop, xnum, len, st, vers, evl, xms, own, clr, amt, arg, eg, el, pos, hgt, stk, sst, sev, sw, swm, srf) ∧ ∃ (yend yans yrest : Int32) (cps ywm wcp ecp mcp rcp yms ysf ycl yam yar ygv yel yat ytp : Nat → Int32), v = (ylim, ev, nI W, rf, nI (t + 1), yend, yans, yrest, lc, yres, yused, ycalls, yver, ykept, yop, ybs, len, st, cps, old, bef, ywm, wcp, ecp, mcp, rcp, evl, yms, ysf, ycl, yam, yar, ygv, yel, yat, ytp, stk) ∧ ∃ h e g w q : Nat, m = q + e ∧ t < 5 ∧ h ≤ 6 ∧ e ≤ g ∧ w ≤ W ∧ ce_fp r0 st0 len own ysf pos yat hgt ytp clr ycl amt yam arg yar eg ygv el yel sev ecp sw mcp swm wcp srf rcp sst cps t h e g w ∧ ce_FS (ce_fp r0 st0 len own ysf pos yat hgt ytp clr ycl amt yam arg yar eg ygv el yel sev ecp sw mcp swm wcp srf rcp sst cps) t g w q ∧ ce_CO ev wm xop xnum yop ybs len st ywm xms yms W
/-- the relation where a run has ended: e energy is left, W messages wait -/
def ce_F (xlim xps xvn xkc lr lu ylim yres yused ycalls yver ykept : Int32) (xop xnum len vers yop ybs old bef : Nat → Int32) (r0 : Int32) (st0 : Nat → Int32) (e W : Nat) (u : SX) (v : SY) : Prop := ∃ (ev wm rf ea er lc : Int32) (st evl xms own clr amt arg eg el pos hgt stk sst sev sw swm srf : Nat → Int32), u = (xlim, xps, xvn, xkc, ev, nI W, wm, rf, 0, ea, er, lr, lu, lc, xop, xnum, len, st, vers, evl, xms, own, clr, amt, arg, eg, el, pos, hgt, stk, sst, sev, sw, swm, srf) ∧ ∃ (cps ywm wcp ecp mcp rcp yms ysf ycl yam yar ygv yel yat ytp : Nat → Int32), v = (ylim, ev, nI W, rf, 0, ea, er, nI e, lc, yres, yused, ycalls, yver, ykept, yop, ybs, len, st, cps, old, bef, ywm, wcp, ecp, mcp, rcp, evl, yms, ysf, ycl, yam, yar, ygv, yel, yat, ytp, stk) ∧ el 0 = nI e ∧ ce_CO ev wm xop xnum yop ybs len st ywm xms yms W ∧ (ea = 0 ∨ ea = 1 ∨ ea = 2 ∨ ea = 3) ∧ (¬ ea = 0 → rf = r0 ∧ ∀ j, j < 30 → st j = st0 j)
/-- what a step leaves -/
def ce_ST (xlim xps xvn xkc lr lu ylim yres yused ycalls yver ykept : Int32) (xop xnum len vers yop ybs old bef : Nat → Int32) (r0 : Int32) (st0 : Nat → Int32) (t m W : Nat) (u : SX) (v : SY) : Prop := (∃ t' m' W', ce_R xlim xps xvn xkc lr lu ylim yres yused ycalls yver ykept xop xnum len vers yop ybs old bef r0 st0 t' m' W' u v ∧ 2 * m' + t' < 2 * m + t ∧ m' + W' ≤ m + W) ∨ (∃ e' W', ce_F xlim xps xvn xkc lr lu ylim yres yused ycalls yver ykept xop xnum len vers yop ybs old bef r0 st0 e' W' u v ∧ e' + W' ≤ m + W)
def ce_XL (post : Int32 → SX → Prop) (n : Nat) (k : Int32) (u : SX) : Prop := match u with
  | (xlim, xps, xvn, xkc, ev, wa, wm, rf, dp, ea, er, lr, lu, lc, xop, xnum, len, st, vers, evl, xms, own, clr, amt, arg, eg, el, pos, hgt, stk, sst, sev, sw, swm, srf) => wX_runCall_14 post n k xlim xps xvn xkc ev wa wm rf dp ea er lr lu lc xop xnum len st vers evl xms own clr amt arg eg el pos hgt stk sst sev sw swm srf
def ce_XJ (j : Nat) (u u' : SX) : Prop := ∀ (post : Int32 → SX → Prop) (n k : Nat), k + j ≤ 1000000 → ce_XL post n (nI (k + j)) u' → ce_XL post (n + j) (nI k) u
theorem ce_XJ1 {t : Nat} {u' : SX} (ht : t ≤ 5) (hs : ∀ P : SX → Prop, P u' → wpX_step P (xlim, xps, xvn, xkc, ev, wa, wm, rf, nI (t + 1), ea, er, lr, lu, lc, xop, xnum, len, st, vers, evl, xms, own, clr, amt, arg, eg, el, pos, hgt, stk, sst, sev, sw, swm, srf)) : ce_XJ 1 (xlim, xps, xvn, xkc, ev, wa, wm, rf, nI (t + 1), ea, er, lr, lu, lc, xop, xnum, len, st, vers, evl, xms, own, clr, amt, arg, eg, el, pos, hgt, stk, sst, sev, sw, swm, srf) u' := by
  intro post n k hk hx
  unfold ce_XL
  refine br_f (nI_ge (b := 1000000) (by omega) (by decide)) (br_f (nI_nle (by omega) (by omega)) (hs _ ?_))
  obtain ⟨a1, a2, a3, a4, a5, a6, a7, a8, a9, a10, a11, a12, a13, a14, a15, a16, a17, a18, a19, a20, a21, a22, a23, a24, a25, a26, a27, a28, a29, a30, a31, a32, a33, a34, a35⟩ := u'
  exact nm_r (nI_1 k) hx
theorem ce_XJ2 {u u1 u' : SX} (h1 : ce_XJ 1 u u1) (h2 : ce_XJ 1 u1 u') : ce_XJ 2 u u' := by
  intro post n k hk hx
  exact h1 post (n + 1) k (by omega) (h2 post n (k + 1) (by omega) hx)
/-- the end of a call, behind what is put back -/
theorem en_33 {t e g w q W m : Nat} {how res : Int32} (ht : t < 5) (hel : el t = nI e) (hg1 : eg t = nI g) (hg2 : ygv t = nI g) (heg : e ≤ g) (hg4 : g ≤ 1000) (hwW : w ≤ W) (hS : ce_FS (ce_fp r0 st0 len own ysf pos yat hgt ytp clr ycl amt yam arg yar eg ygv el yel sev ecp sw mcp swm wcp srf rcp sst cps) t g w q) (hCO : ce_CO ev wm xop xnum yop ybs len st ywm xms yms W) (hhow : how = 0 ∨ how = 1 ∨ how = 2 ∨ how = 3) (hund : t = 0 → ¬ how = 0 → rf = r0 ∧ ∀ j, j < 30 → st j = st0 j) (hm : q + e ≤ m) :
    ∃ u' v', (∀ P : SX → Prop, P u' → wX_endCall_33 P how res (nI t) (xlim) (xps) (xvn) (xkc) (ev) (nI W) (wm) (rf) (dp) (ea) (er) (lr) (lu) (lc) (xop) (xnum) (len) (st) (vers) (evl) (xms) (own) (clr) (amt) (arg) (eg) (el) (pos) (hgt) (stk) (sst) (sev) (sw) (swm) (srf)) ∧ (∀ P : SY → Prop, P v' → wY_end_158 P (ylim) (ev) (nI W) (rf) (nI t) (how) (res) (nI e) (lc) (yres) (yused) (ycalls) (yver) (ykept) (yop) (ybs) (len) (st) (cps) (old) (bef) (ywm) (wcp) (ecp) (mcp) (rcp) (evl) (yms) (ysf) (ycl) (yam) (yar) (ygv) (yel) (yat) (ytp) (stk)) ∧ ce_ST xlim xps xvn xkc lr lu ylim yres yused ycalls yver ykept xop xnum len vers yop ybs old bef r0 st0 t m W u' v' := by
  cases t with
  | zero =>
    have hq : q = 0 := hS
    refine ⟨_, _, fun P hp => xe_0 hp, fun P hp => ye_0 hp, Or.inr ⟨e, W, ⟨_, _, _, _, _, _, _, _, _, _, _, _, _, _, _, _, _, _, _, _, _, _, _, rfl, _, _, _, _, _, _, _, _, _, _, _, _, _, _, _, rfl, hel, hCO, hhow, fun z => hund rfl z⟩, by omega⟩⟩
  | succ t =>
    obtain ⟨h1, e1, g1, w1, q1, hF, a2, a3, a4, a5, a6, a7⟩ := hS
    obtain ⟨⟨a, p, L, b1, b2, b3, b4, b5, b6, b7, b8, b9, b10, b11, b12, b13⟩, c1, c2, cr⟩ := hF
    have ex : el t - (eg (t + 1) - el (t + 1)) = nI (e1 - (g - e)) := by rw [c1, hg1, hel, pk_sub heg, pk_sub (by omega)]
    have ey : yel t - (ygv (t + 1) - nI e) = nI (e1 - (g - e)) := by rw [c2, hg2, pk_sub heg, pk_sub (by omega)]
    refine ⟨_, _, fun P hp => xe_1 ht b9 a2 hp, fun P hp => ye_1 ht b10 a2 hp, Or.inl ⟨t, q1 + (e1 - (g - e)), W, ⟨_, _, _, _, _, _, _, _, _, _, _, _, _, _, _, _, _, _, _, _, _, _, _, rfl, _, _, _, _, _, _, _, _, _, _, _, _, _, _, _, _, _, _, rfl, h1 + 2, e1 - (g - e), g1, w1, q1, rfl, by omega, by omega, by omega, by omega, ?_, ?_, hCO⟩, by omega, by omega⟩⟩
    · rw [ex, ey]
      exact ⟨⟨a, p, L, b1, b2, b3, b4, b5, b6, b7, b8, pk_us, pk_us, b11, b12, b13⟩, pk_us, pk_us, cr⟩
    · exact ce_FSc (fun j hj h e g w H => ce_fpc H) a6
end
end
section
section
variable {xlim xps xvn xkc ev wa wm rf dp ea er lr lu lc ylim yend yans yrest ybeg yres yused ycalls yver ykept : Int32} {xop xnum len st vers evl xms own clr amt arg eg el pos hgt stk sst sev sw swm srf yop ybs cps old bef ywm wcp ecp mcp rcp yms ysf ycl yam yar ygv yel yat ytp : Nat → Int32}
variable {r0 : Int32} {st0 : Nat → Int32}
theorem ce_STW {t m W m' W' : Nat} {u : SX} {v : SY} (hm : m ≤ m') (hW : m + W ≤ m' + W') (h : ce_ST xlim xps xvn xkc lr lu ylim yres yused ycalls yver ykept xop xnum len vers yop ybs old bef r0 st0 t m W u v) : ce_ST xlim xps xvn xkc lr lu ylim yres yused ycalls yver ykept xop xnum len vers yop ybs old bef r0 st0 t m' W' u v := by
  rcases h with ⟨a, b, c, h1, h2, h3⟩ | ⟨a, b, h1, h2⟩
  · exact Or.inl ⟨a, b, c, h1, by omega, by omega⟩
  · exact Or.inr ⟨a, b, h1, by omega⟩
theorem ce_MSw {n n' : Nat} (h : ce_MS xms yms n) (hn : n' ≤ n) : ce_MS xms yms n' := fun i hi => h i (by omega)
theorem ce_COund {t e g w W : Nat} (hfe : ce_fe r0 st0 eg ygv el yel sev ecp sw mcp swm wcp srf rcp sst cps t e g w) (hwW : w ≤ W) (hCO : ce_CO ev wm xop xnum yop ybs len st ywm xms yms W) : ce_CO (sev t) (swm t) xop xnum yop ybs len (ce_cp st 0 30 (fun j => sst (30 * t + j))) (ce_cp ywm 0 24 (fun j => wcp (24 * t + j))) xms yms w := by
  obtain ⟨c1, c2, c3, c4, c5, ⟨s, c6, c7, c8⟩, c9, c10, c11, c12, c13, c14, c15, c16⟩ := hfe
  obtain ⟨d1, d2, d3, d4, d5, d6⟩ := hCO
  exact ⟨⟨s, c6, c7⟩, c11, d3, ce_BLc c14 (fun j hj => ce_cpi0 hj), ce_WRc c15 (fun j hj => ce_cpi0 hj), ce_MSw d6 hwW⟩
theorem en_ok {t e g w q W m : Nat} {res : Int32} (ht : t < 5) (hfe : ce_fe r0 st0 eg ygv el yel sev ecp sw mcp swm wcp srf rcp sst cps t e g w) (heg : e ≤ g) (hwW : w ≤ W) (hS : ce_FS (ce_fp r0 st0 len own ysf pos yat hgt ytp clr ycl amt yam arg yar eg ygv el yel sev ecp sw mcp swm wcp srf rcp sst cps) t g w q) (hCO : ce_CO ev wm xop xnum yop ybs len st ywm xms yms W) (hm : q + e ≤ m) :
    ∃ u' v', (∀ P : SX → Prop, P u' → wpX_endCall P (xlim, xps, xvn, xkc, ev, nI W, wm, rf, nI (t + 1), ea, er, lr, lu, lc, xop, xnum, len, st, vers, evl, xms, own, clr, amt, arg, eg, el, pos, hgt, stk, sst, sev, sw, swm, srf) 0 res) ∧ (∀ P : SY → Prop, P v' → wpY_end P (ylim, ev, nI W, rf, nI (t + 1), yend, yans, yrest, lc, yres, yused, ycalls, yver, ykept, yop, ybs, len, st, cps, old, bef, ywm, wcp, ecp, mcp, rcp, evl, yms, ysf, ycl, yam, yar, ygv, yel, yat, ytp, stk) 0 res) ∧ ce_ST xlim xps xvn xkc lr lu ylim yres yused ycalls yver ykept xop xnum len vers yop ybs old bef r0 st0 t m W u' v' := by
  obtain ⟨c1, c2, c3, c4, c5, cr⟩ := hfe
  obtain ⟨u', v', hx, hy, hs⟩ := en_33 (dp := nI (t + 1)) (res := res) (how := 0) (evl := evl) (stk := stk) (ea := ea) (er := er) (lc := lc) (rf := rf) ht c1 c3 c4 heg c5 hwW hS hCO (Or.inl rfl) (fun _ z => absurd rfl z) hm
  refine ⟨u', v', fun P hp => xe_ok (hx P hp), fun P hp => ye_ok ht ?_, hs⟩
  rw [c2]
  exact hy P hp
theorem en_rev {t e g w q W m : Nat} {res : Int32} (ht : t < 5) (hfe : ce_fe r0 st0 eg ygv el yel sev ecp sw mcp swm wcp srf rcp sst cps t e g w) (heg : e ≤ g) (hwW : w ≤ W) (hS : ce_FS (ce_fp r0 st0 len own ysf pos yat hgt ytp clr ycl amt yam arg yar eg ygv el yel sev ecp sw mcp swm wcp srf rcp sst cps) t g w q) (hCO : ce_CO ev wm xop xnum yop ybs len st ywm xms yms W) (hm : q + e ≤ m) :
    ∃ u' v', (∀ P : SX → Prop, P u' → wpX_endCall P (xlim, xps, xvn, xkc, ev, nI W, wm, rf, nI (t + 1), ea, er, lr, lu, lc, xop, xnum, len, st, vers, evl, xms, own, clr, amt, arg, eg, el, pos, hgt, stk, sst, sev, sw, swm, srf) 1 res) ∧ (∀ P : SY → Prop, P v' → wpY_end P (ylim, ev, nI W, rf, nI (t + 1), yend, yans, yrest, lc, yres, yused, ycalls, yver, ykept, yop, ybs, len, st, cps, old, bef, ywm, wcp, ecp, mcp, rcp, evl, yms, ysf, ycl, yam, yar, ygv, yel, yat, ytp, stk) 1 res) ∧ ce_ST xlim xps xvn xkc lr lu ylim yres yused ycalls yver ykept xop xnum len vers yop ybs old bef r0 st0 t m W u' v' := by
  have hCu := ce_COund hfe hwW hCO
  obtain ⟨c1, c2, c3, c4, c5, ⟨s, c6, c7, c8⟩, c9, c10, c11, c12, c13, c14, c15, c16⟩ := hfe
  obtain ⟨u', v', hx, hy, hs⟩ := en_33 (dp := nI (t + 1)) (res := res) (how := 1) (evl := evl) (stk := stk) (ea := ea) (er := er) (lc := lc) (rf := srf t) ht c1 c3 c4 heg c5 (Nat.le_refl w) hS hCu (by decide) (fun z _ => ⟨(c16 z).1, fun j hj => (ce_cpi0 hj).trans ((c16 z).2 j hj)⟩) hm
  refine ⟨u', v', fun P hp => xe_rev ht ?_, fun P hp => ye_rev ht (fun j hj => ce_WRn c15 hj) ?_, ce_STW (Nat.le_refl m) (by omega) hs⟩
  · rw [c9]; exact hx P hp
  · rw [c2, c8.trans c7.symm, c10, ← c12, ← ce_cpc c13]; exact hy P hp
theorem en_bad {t e g w q W m : Nat} {how res : Int32} (h23 : how = 2 ∨ how = 3) (ht : t < 5) (hfe : ce_fe r0 st0 eg ygv el yel sev ecp sw mcp swm wcp srf rcp sst cps t e g w) (heg : e ≤ g) (hwW : w ≤ W) (hS : ce_FS (ce_fp r0 st0 len own ysf pos yat hgt ytp clr ycl amt yam arg yar eg ygv el yel sev ecp sw mcp swm wcp srf rcp sst cps) t g w q) (hCO : ce_CO ev wm xop xnum yop ybs len st ywm xms yms W) (hm : q ≤ m) :
    ∃ u' v', (∀ P : SX → Prop, P u' → wpX_endCall P (xlim, xps, xvn, xkc, ev, nI W, wm, rf, nI (t + 1), ea, er, lr, lu, lc, xop, xnum, len, st, vers, evl, xms, own, clr, amt, arg, eg, el, pos, hgt, stk, sst, sev, sw, swm, srf) how res) ∧ (∀ P : SY → Prop, P v' → wpY_end P (ylim, ev, nI W, rf, nI (t + 1), yend, yans, yrest, lc, yres, yused, ycalls, yver, ykept, yop, ybs, len, st, cps, old, bef, ywm, wcp, ecp, mcp, rcp, evl, yms, ysf, ycl, yam, yar, ygv, yel, yat, ytp, stk) how res) ∧ ce_ST xlim xps xvn xkc lr lu ylim yres yused ycalls yver ykept xop xnum len vers yop ybs old bef r0 st0 t m W u' v' := by
  have hCu := ce_COund hfe hwW hCO
  obtain ⟨c1, c2, c3, c4, c5, ⟨s, c6, c7, c8⟩, c9, c10, c11, c12, c13, c14, c15, c16⟩ := hfe
  have hS' : ce_FS (ce_fp r0 st0 len own ysf pos yat hgt ytp clr ycl amt yam arg yar eg ygv (upd el t 0) yel sev ecp sw mcp swm wcp srf rcp sst cps) t g w q := ce_FSc (fun j hj h e g w H => ce_fpc H) hS
  obtain ⟨u', v', hx, hy, hs⟩ := en_33 (dp := nI (t + 1)) (e := 0) (res := res) (how := how) (evl := evl) (stk := stk) (ea := ea) (er := er) (lc := lc) (rf := srf t) ht pk_us c3 c4 (by omega) c5 (Nat.le_refl w) hS' hCu (by rcases h23 with rfl | rfl <;> decide) (fun z _ => ⟨(c16 z).1, fun j hj => (ce_cpi0 hj).trans ((c16 z).2 j hj)⟩) hm
  refine ⟨u', v', fun P hp => xe_bad ht h23 ?_, fun P hp => ye_bad ht h23 (fun j hj => ce_WRn c15 hj) ?_, ce_STW (Nat.le_refl m) (by omega) hs⟩
  · rw [c9]; exact hx P hp
  · rw [c8.trans c7.symm, c10, ← c12, ← ce_cpc c13]; exact hy P hp
/-- the innermost call goes on -/
theorem ce_stay {t a L p' h' e e' g w q W : Nat} (ht : t < 5) (ha : a < 6) (h1 : own t = nI a) (h2 : ysf t = nI a) (h3 : len a = nI L) (h4 : L ≤ 24) (hp' : p' < L) (h5 : clr t = ycl t) (h6 : amt t = yam t) (h7 : arg t = yar t) (hh' : h' ≤ 6) (hfe : ce_fe r0 st0 eg ygv el yel sev ecp sw mcp swm wcp srf rcp sst cps t e g w) (he' : e' ≤ e) (heg : e ≤ g) (hwW : w ≤ W) (hS : ce_FS (ce_fp r0 st0 len own ysf pos yat hgt ytp clr ycl amt yam arg yar eg ygv el yel sev ecp sw mcp swm wcp srf rcp sst cps) t g w q) (hCO : ce_CO ev wm xop xnum yop ybs len st ywm xms yms W) : ce_R xlim xps xvn xkc lr lu ylim yres yused ycalls yver ykept xop xnum len vers yop ybs old bef r0 st0 t (q + e') W (xlim, xps, xvn, xkc, ev, nI W, wm, rf, nI (t + 1), ea, er, lr, lu, lc, xop, xnum, len, st, vers, evl, xms, own, clr, amt, arg, eg, upd el t (nI e'), upd pos t (nI p'), upd hgt t (nI h'), stk, sst, sev, sw, swm, srf) (ylim, ev, nI W, rf, nI (t + 1), yend, yans, yrest, lc, yres, yused, ycalls, yver, ykept, yop, ybs, len, st, cps, old, bef, ywm, wcp, ecp, mcp, rcp, evl, yms, ysf, ycl, yam, yar, ygv, upd yel t (nI e'), upd yat t (nI p'), upd ytp t (nI h'), stk) := by
  obtain ⟨c1, c2, cr⟩ := hfe
  refine ⟨_, _, _, _, _, _, _, _, _, _, _, _, _, _, _, _, _, _, _, _, _, _, _, rfl, _, _, _, _, _, _, _, _, _, _, _, _, _, _, _, _, _, _, rfl, h', e', g, w, q, rfl, ht, hh', by omega, hwW, ?_, ?_, hCO⟩
  · exact ⟨⟨a, p', L, ha, h1, h2, h3, h4, hp', pk_us, pk_us, pk_us, pk_us, h5, h6, h7⟩, pk_us, pk_us, cr⟩
  · exact ce_FSc (fun j hj h e g w H => ce_fpc H) hS
/-- a new frame -/
theorem ce_new {d a n L W : Nat} {cl am ar : Int32} (ha : a < 6) (hL : len a = nI L) (hl : L ≤ 24) (h0 : 0 < L) (hn : n ≤ 1000) (hCO : ce_CO ev wm xop xnum yop ybs len st ywm xms yms W) (hz : d = 0 → rf = r0 ∧ ∀ j, j < 30 → st j = st0 j) : ce_fp r0 st0 len (upd own d (nI a)) (upd ysf d (nI a)) (upd pos d 0) (upd yat d 0) (upd hgt d 0) (upd ytp d 0) (upd clr d cl) (upd ycl d cl) (upd amt d am) (upd yam d am) (upd arg d ar) (upd yar d ar) (upd eg d (nI n)) (upd ygv d (nI n)) (upd el d (nI n)) (upd yel d (nI n)) (upd sev d ev) (upd ecp d ev) (upd sw d (nI W)) (upd mcp d (nI W)) (upd swm d wm) (ce_cp wcp (24 * d) 24 ywm) (upd srf d rf) (upd rcp d rf) (ce_cp sst (30 * d) 30 st) (ce_cp cps (30 * d) 30 st) d 0 n n W := by
  obtain ⟨⟨E, d0, d1⟩, d2, d3, d4, d5, d6⟩ := hCO
  refine ⟨⟨a, 0, L, ha, pk_us, pk_us, hL, hl, h0, pk_us, pk_us, pk_us, pk_us, ?_, ?_, ?_⟩, pk_us, pk_us, pk_us, pk_us, hn, ⟨E, d0, pk_us.trans d1, pk_us.trans d1⟩, pk_us, pk_us, d2, ?_, ?_, ?_, ?_, ?_⟩
  · rw [pk_us, pk_us]
  · rw [pk_us, pk_us]
  · rw [pk_us, pk_us]
  · rw [pk_us, pk_us]
  · intro j hj; rw [ce_cpi' hj, ce_cpi' hj]
  · exact ce_BLc d4 (fun j hj => ce_cpi' hj)
  · rw [pk_us]; exact ce_WRc d5 (fun j hj => ce_cpi' hj)
  · intro z
    exact ⟨pk_us.trans (hz z).1, fun j hj => (ce_cpi' hj).trans ((hz z).2 j hj)⟩
/-! money moves -/
theorem ce_BLmv {d a : Nat} {cl am : Int32} (hB : ce_BL st) (hc : ce_CL cl) (ha : a < 6) (hD : ¬ ce_DN st d cl a am) : ce_BL (ce_mv st cl a am) := by
  have n1 : ¬ am < 0 := fun q => hD (Or.inl q)
  have n3 : ¬ ∃ c, c < 6 ∧ cl = nI c ∧ st (5 * c + 4) < am := fun q => hD (Or.inr (Or.inr (Or.inl q)))
  have n4 : ¬ 1000000000 - st (5 * a + 4) < am := fun q => hD (Or.inr (Or.inr (Or.inr q)))
  obtain ⟨x, hx, rfl⟩ := nI_of n1
  obtain ⟨m, hm, em⟩ := hB a ha
  have hs : m + x ≤ 1000000000 := by
    rw [em, show (1000000000 : Int32) = nI 1000000000 from rfl, pk_sub hm, nI_ltI (by omega) (by omega)] at n4
    omega
  rcases hc with rfl | ⟨c, hc, rfl⟩
  · intro a' ha'
    unfold ce_mv ce_tk
    rw [if_pos rfl]
    by_cases e : a' = a
    · subst e
      exact ⟨m + x, hs, by rw [pk_us, em, nI_add]⟩
    · rw [pk_un (by omega)]; exact hB a' ha'
  · obtain ⟨mc, hmc, emc⟩ := hB c hc
    have hxc : x ≤ mc := by
      have : ¬ st (5 * c + 4) < nI x := fun q => n3 ⟨c, hc, rfl, q⟩
      rw [emc, nI_ltI (by omega) (by omega)] at this
      omega
    have etk : ce_tk st (nI c) (nI x) = upd st (5 * c + 4) (nI (mc - x)) := by
      unfold ce_tk
      rw [if_neg (ce_neg1 hc), ce_cl (by omega), emc, pk_sub hxc]
    intro a' ha'
    unfold ce_mv
    rw [etk]
    by_cases e : a' = a
    · subst e
      rw [pk_us]
      by_cases e2 : a' = c
      · subst e2
        exact ⟨mc, hmc, by rw [pk_us, nI_add]; exact congrArg nI (by omega)⟩
      · exact ⟨m + x, hs, by rw [pk_un (by omega), em, nI_add]⟩
    · rw [pk_un (by omega)]
      by_cases e2 : a' = c
      · subst e2
        exact ⟨mc - x, by omega, by rw [pk_us]⟩
      · rw [pk_un (by omega)]; exact hB a' ha'
theorem ce_COmv {d a W : Nat} {cl am : Int32} (hCO : ce_CO ev wm xop xnum yop ybs len st ywm xms yms W) (hc : ce_CL cl) (ha : a < 6) (hD : ¬ ce_DN st d cl a am) : ce_CO ev wm xop xnum yop ybs len (ce_mv st cl a am) ywm xms yms W := by
  obtain ⟨d1, d2, d3, d4, d5, d6⟩ := hCO
  exact ⟨d1, d2, d3, ce_BLmv d4 hc ha hD, d5, d6⟩
theorem ce_MSsend {W a s : Nat} {y z : Int32} (h : ce_MS xms yms W) (ha : a < 6) (hs : s < 6) : ce_MS (ce_m4 xms W (nI a) y z (nI s)) (ce_m4 yms W (nI a) y z (nI s)) (W + 1) := by
  intro i hi
  unfold ce_m4
  by_cases e : i = W
  · subst e
    refine ⟨⟨a, ha, ?_, ?_⟩, ?_, ?_, ⟨s, hs, pk_us, pk_us⟩⟩
    · rw [pk_un (by omega), pk_un (by omega), pk_un (by omega), pk_us]
    · rw [pk_un (by omega), pk_un (by omega), pk_un (by omega), pk_us]
    · rw [pk_un (by omega), pk_un (by omega), pk_us, pk_un (by omega), pk_un (by omega), pk_us]
    · rw [pk_un (by omega), pk_us, pk_un (by omega), pk_us]
  · have q : ∀ (f : Nat → Int32) (x : Int32) (r : Nat), r < 4 → upd (upd (upd (upd f (4 * W) (nI a)) (4 * W + 1) y) (4 * W + 2) z) (4 * W + 3) x (4 * i + r) = f (4 * i + r) := by
      intro f x r hr
      rw [pk_un (by omega), pk_un (by omega), pk_un (by omega), pk_un (by omega)]
    have H := h i (by omega)
    refine ⟨?_, ?_, ?_, ?_⟩
    · rw [show 4 * i = 4 * i + 0 from rfl, q _ _ 0 (by omega), q _ _ 0 (by omega)]; exact H.1
    · rw [q _ _ 1 (by omega), q _ _ 1 (by omega)]; exact H.2.1
    · rw [q _ _ 2 (by omega), q _ _ 2 (by omega)]; exact H.2.2.1
    · rw [q _ _ 3 (by omega), q _ _ 3 (by omega)]; exact H.2.2.2
end
end
section
section
variable {xlim xps xvn xkc ev wa wm rf dp ea er lr lu lc ylim yend yans yrest ybeg yres yused ycalls yver ykept : Int32} {xop xnum len st vers evl xms own clr amt arg eg el pos hgt stk sst sev sw swm srf yop ybs cps old bef ywm wcp ecp mcp rcp yms ysf ycl yam yar ygv yel yat ytp : Nat → Int32}
variable {r0 : Int32} {st0 : Nat → Int32}
theorem st_out {t a p L k c h0 e g w q W : Nat} {b : Int32} (ht : t < 5) (ha : a < 6) (h1 : own t = nI a) (h2 : ysf t = nI a) (h3 : len a = nI L) (h4 : L ≤ 24) (hpL : p < L) (hp1 : pos t = nI p) (hp2 : yat t = nI p) (hh1 : hgt t = nI (h0)) (hh2 : ytp t = nI (h0)) (hh6 : h0 ≤ 6) (h5 : clr t = ycl t) (h6 : amt t = yam t) (h7 : arg t = yar t) (hfe : ce_fe r0 st0 eg ygv el yel sev ecp sw mcp swm wcp srf rcp sst cps t e g w) (heg : e ≤ g) (hwW : w ≤ W) (hS : ce_FS (ce_fp r0 st0 len own ysf pos yat hgt ytp clr ycl amt yam arg yar eg ygv el yel sev ecp sw mcp swm wcp srf rcp sst cps) t g w q) (hCO : ce_CO ev wm xop xnum yop ybs len st ywm xms yms W) (ho1 : xop (24 * a + p) = nI k) (ho2 : yop (24 * a + p) = nI k) (hb1 : xnum (24 * a + p) = b) (hb2 : ybs (24 * a + p) = b) (hc : b &&& 3 = nI c) (hc4 : c < 4) (hk : k < 24) (hC : e < ce_cost k (bt wm (5 * a + c))) : ∃ j u' v', (j = 1 ∨ j = 2) ∧ ce_XJ j (xlim, xps, xvn, xkc, ev, nI W, wm, rf, nI (t + 1), ea, er, lr, lu, lc, xop, xnum, len, st, vers, evl, xms, own, clr, amt, arg, eg, el, pos, hgt, stk, sst, sev, sw, swm, srf) u' ∧ (∀ P : SY → Prop, P v' → wpY_step P (ylim, ev, nI W, rf, nI (t + 1), yend, yans, yrest, lc, yres, yused, ycalls, yver, ykept, yop, ybs, len, st, cps, old, bef, ywm, wcp, ecp, mcp, rcp, evl, yms, ysf, ycl, yam, yar, ygv, yel, yat, ytp, stk)) ∧ ce_ST xlim xps xvn xkc lr lu ylim yres yused ycalls yver ykept xop xnum len vers yop ybs old bef r0 st0 t (q + e) W u' v' := by
  have hg4 : g ≤ 1000 := hfe.2.2.2.2.1
  obtain ⟨u', v', hx, hy, hs⟩ := en_bad (how := 2) (res := 0) (m := q + e) (Or.inl rfl) ht hfe heg hwW hS hCO (by omega)
  exact ⟨1, u', v', Or.inl rfl, ce_XJ1 (by omega) (fun P hp => xs_out ht ha h1 h3 h4 hp1 hpL ho1 hk hb1 hc hc4 hfe.1 (by omega) hC hx hp), fun P hp => ys_out ht ha h2 h3 h4 hp2 hpL ho2 hk hb2 hc hc4 hfe.2.1 (by omega) hCO.2.2.2.2.1 hC hy hp, hs⟩
theorem st_low {t a p L k c h0 e g w q W : Nat} {b : Int32} (ht : t < 5) (ha : a < 6) (h1 : own t = nI a) (h2 : ysf t = nI a) (h3 : len a = nI L) (h4 : L ≤ 24) (hpL : p < L) (hp1 : pos t = nI p) (hp2 : yat t = nI p) (hh1 : hgt t = nI (h0)) (hh2 : ytp t = nI (h0)) (hh6 : h0 ≤ 6) (h5 : clr t = ycl t) (h6 : amt t = yam t) (h7 : arg t = yar t) (hfe : ce_fe r0 st0 eg ygv el yel sev ecp sw mcp swm wcp srf rcp sst cps t e g w) (heg : e ≤ g) (hwW : w ≤ W) (hS : ce_FS (ce_fp r0 st0 len own ysf pos yat hgt ytp clr ycl amt yam arg yar eg ygv el yel sev ecp sw mcp swm wcp srf rcp sst cps) t g w q) (hCO : ce_CO ev wm xop xnum yop ybs len st ywm xms yms W) (ho1 : xop (24 * a + p) = nI k) (ho2 : yop (24 * a + p) = nI k) (hb1 : xnum (24 * a + p) = b) (hb2 : ybs (24 * a + p) = b) (hc : b &&& 3 = nI c) (hc4 : c < 4) (hk : k < 24) (hC : ce_cost k (bt wm (5 * a + c)) ≤ e) (hlo : h0 < ce_tkn k) : ∃ j u' v', (j = 1 ∨ j = 2) ∧ ce_XJ j (xlim, xps, xvn, xkc, ev, nI W, wm, rf, nI (t + 1), ea, er, lr, lu, lc, xop, xnum, len, st, vers, evl, xms, own, clr, amt, arg, eg, el, pos, hgt, stk, sst, sev, sw, swm, srf) u' ∧ (∀ P : SY → Prop, P v' → wpY_step P (ylim, ev, nI W, rf, nI (t + 1), yend, yans, yrest, lc, yres, yused, ycalls, yver, ykept, yop, ybs, len, st, cps, old, bef, ywm, wcp, ecp, mcp, rcp, evl, yms, ysf, ycl, yam, yar, ygv, yel, yat, ytp, stk)) ∧ ce_ST xlim xps xvn xkc lr lu ylim yres yused ycalls yver ykept xop xnum len vers yop ybs old bef r0 st0 t (q + e) W u' v' := by
  have hg4 : g ≤ 1000 := hfe.2.2.2.2.1
  obtain ⟨u', v', hx, hy, hs⟩ := en_bad (how := 3) (res := 0) (m := q + e) (e := e - ce_cost k (bt wm (5 * a + c))) (el := upd el t (nI (e - ce_cost k (bt wm (5 * a + c))))) (yel := upd yel t (nI (e - ce_cost k (bt wm (5 * a + c))))) (Or.inr rfl) ht ⟨pk_us, pk_us, hfe.2.2⟩ (by omega) hwW (ce_FSc (fun j hj h e g w H => ce_fpc H) hS) hCO (by omega)
  exact ⟨1, u', v', Or.inl rfl, ce_XJ1 (by omega) (fun P hp => xs_low ht ha h1 h3 h4 hp1 hpL ho1 hk hb1 hc hc4 hfe.1 (by omega) hC hh1 hlo hx hp), fun P hp => ys_low ht ha h2 h3 h4 hp2 hpL ho2 hk hb2 hc hc4 hfe.2.1 (by omega) hCO.2.2.2.2.1 hC hh2 hlo hy hp, hs⟩
theorem st_hig {t a p L k c h0 e g w q W : Nat} {b : Int32} (ht : t < 5) (ha : a < 6) (h1 : own t = nI a) (h2 : ysf t = nI a) (h3 : len a = nI L) (h4 : L ≤ 24) (hpL : p < L) (hp1 : pos t = nI p) (hp2 : yat t = nI p) (hh1 : hgt t = nI (h0 + ce_tkn k)) (hh2 : ytp t = nI (h0 + ce_tkn k)) (hh6 : h0 + ce_tkn k ≤ 6) (h5 : clr t = ycl t) (h6 : amt t = yam t) (h7 : arg t = yar t) (hfe : ce_fe r0 st0 eg ygv el yel sev ecp sw mcp swm wcp srf rcp sst cps t e g w) (heg : e ≤ g) (hwW : w ≤ W) (hS : ce_FS (ce_fp r0 st0 len own ysf pos yat hgt ytp clr ycl amt yam arg yar eg ygv el yel sev ecp sw mcp swm wcp srf rcp sst cps) t g w q) (hCO : ce_CO ev wm xop xnum yop ybs len st ywm xms yms W) (ho1 : xop (24 * a + p) = nI k) (ho2 : yop (24 * a + p) = nI k) (hb1 : xnum (24 * a + p) = b) (hb2 : ybs (24 * a + p) = b) (hc : b &&& 3 = nI c) (hc4 : c < 4) (hk : k < 24) (hC : ce_cost k (bt wm (5 * a + c)) ≤ e) (hhi : 6 < h0 + ce_add k) : ∃ j u' v', (j = 1 ∨ j = 2) ∧ ce_XJ j (xlim, xps, xvn, xkc, ev, nI W, wm, rf, nI (t + 1), ea, er, lr, lu, lc, xop, xnum, len, st, vers, evl, xms, own, clr, amt, arg, eg, el, pos, hgt, stk, sst, sev, sw, swm, srf) u' ∧ (∀ P : SY → Prop, P v' → wpY_step P (ylim, ev, nI W, rf, nI (t + 1), yend, yans, yrest, lc, yres, yused, ycalls, yver, ykept, yop, ybs, len, st, cps, old, bef, ywm, wcp, ecp, mcp, rcp, evl, yms, ysf, ycl, yam, yar, ygv, yel, yat, ytp, stk)) ∧ ce_ST xlim xps xvn xkc lr lu ylim yres yused ycalls yver ykept xop xnum len vers yop ybs old bef r0 st0 t (q + e) W u' v' := by
  have hg4 : g ≤ 1000 := hfe.2.2.2.2.1
  obtain ⟨u', v', hx, hy, hs⟩ := en_bad (how := 3) (res := 0) (m := q + e) (e := e - ce_cost k (bt wm (5 * a + c))) (el := upd el t (nI (e - ce_cost k (bt wm (5 * a + c))))) (yel := upd yel t (nI (e - ce_cost k (bt wm (5 * a + c))))) (Or.inr rfl) ht ⟨pk_us, pk_us, hfe.2.2⟩ (by omega) hwW (ce_FSc (fun j hj h e g w H => ce_fpc H) hS) hCO (by omega)
  exact ⟨1, u', v', Or.inl rfl, ce_XJ1 (by omega) (fun P hp => xs_hig ht ha h1 h3 h4 hp1 hpL ho1 hk hb1 hc hc4 hfe.1 (by omega) hC hh1 hh6 hhi hx hp), fun P hp => ys_hig ht ha h2 h3 h4 hp2 hpL ho2 hk hb2 hc hc4 hfe.2.1 (by omega) hCO.2.2.2.2.1 hC hh2 hh6 hhi hy hp, hs⟩
theorem ce_nxy {k p : Nat} {b x : Int32} (n19 : k ≠ 19) (n20 : k ≠ 20) : ce_nx k b p x = ce_ny k b p x := by
  unfold ce_nx ce_ny
  rw [if_neg (by omega)]
theorem st_jmp {t a p L k c h0 e g w q W : Nat} {b : Int32} (ht : t < 5) (ha : a < 6) (h1 : own t = nI a) (h2 : ysf t = nI a) (h3 : len a = nI L) (h4 : L ≤ 24) (hpL : p < L) (hp1 : pos t = nI p) (hp2 : yat t = nI p) (hh1 : hgt t = nI (h0 + ce_tkn k)) (hh2 : ytp t = nI (h0 + ce_tkn k)) (hh6 : h0 + ce_tkn k ≤ 6) (h5 : clr t = ycl t) (h6 : amt t = yam t) (h7 : arg t = yar t) (hfe : ce_fe r0 st0 eg ygv el yel sev ecp sw mcp swm wcp srf rcp sst cps t e g w) (heg : e ≤ g) (hwW : w ≤ W) (hS : ce_FS (ce_fp r0 st0 len own ysf pos yat hgt ytp clr ycl amt yam arg yar eg ygv el yel sev ecp sw mcp swm wcp srf rcp sst cps) t g w q) (hCO : ce_CO ev wm xop xnum yop ybs len st ywm xms yms W) (ho1 : xop (24 * a + p) = nI k) (ho2 : yop (24 * a + p) = nI k) (hb1 : xnum (24 * a + p) = b) (hb2 : ybs (24 * a + p) = b) (hc : b &&& 3 = nI c) (hc4 : c < 4) (hk : k < 24) (hC : ce_cost k (bt wm (5 * a + c)) ≤ e) (hadd : h0 + ce_add k ≤ 6) (h17 : k = 17 → h0 < 6) (n19 : k ≠ 19) (n20 : k ≠ 20) (hn : ce_ny k b p (stk (6 * t + h0)) < 0 ∨ ¬ ce_ny k b p (stk (6 * t + h0)) < nI L) : ∃ j u' v', (j = 1 ∨ j = 2) ∧ ce_XJ j (xlim, xps, xvn, xkc, ev, nI W, wm, rf, nI (t + 1), ea, er, lr, lu, lc, xop, xnum, len, st, vers, evl, xms, own, clr, amt, arg, eg, el, pos, hgt, stk, sst, sev, sw, swm, srf) u' ∧ (∀ P : SY → Prop, P v' → wpY_step P (ylim, ev, nI W, rf, nI (t + 1), yend, yans, yrest, lc, yres, yused, ycalls, yver, ykept, yop, ybs, len, st, cps, old, bef, ywm, wcp, ecp, mcp, rcp, evl, yms, ysf, ycl, yam, yar, ygv, yel, yat, ytp, stk)) ∧ ce_ST xlim xps xvn xkc lr lu ylim yres yused ycalls yver ykept xop xnum len vers yop ybs old bef r0 st0 t (q + e) W u' v' := by
  have hg4 : g ≤ 1000 := hfe.2.2.2.2.1
  obtain ⟨u', v', hx, hy, hs⟩ := en_bad (how := 3) (res := 0) (m := q + e) (e := e - ce_cost k (bt wm (5 * a + c))) (el := upd el t (nI (e - ce_cost k (bt wm (5 * a + c))))) (yel := upd yel t (nI (e - ce_cost k (bt wm (5 * a + c))))) (Or.inr rfl) ht ⟨pk_us, pk_us, hfe.2.2⟩ (by omega) hwW (ce_FSc (fun j hj h e g w H => ce_fpc H) hS) hCO (by omega)
  exact ⟨1, u', v', Or.inl rfl, ce_XJ1 (by omega) (fun P hp => xs_jmp ht ha h1 h3 h4 hp1 hpL ho1 hk hb1 hc hc4 hfe.1 (by omega) hC hh1 hh6 hadd h17 (by rw [ce_nxy n19 n20]; exact hn) hx hp), fun P hp => ys_jmp ht ha h2 h3 h4 hp2 hpL ho2 hk hb2 hc hc4 hfe.2.1 (by omega) hCO.2.2.2.2.1 hC hh2 hh6 hadd n19 n20 hn hy hp, hs⟩
theorem st_ret {t a p L k c h0 e g w q W : Nat} {b : Int32} (ht : t < 5) (ha : a < 6) (h1 : own t = nI a) (h2 : ysf t = nI a) (h3 : len a = nI L) (h4 : L ≤ 24) (hpL : p < L) (hp1 : pos t = nI p) (hp2 : yat t = nI p) (hh1 : hgt t = nI (h0 + ce_tkn k)) (hh2 : ytp t = nI (h0 + ce_tkn k)) (hh6 : h0 + ce_tkn k ≤ 6) (h5 : clr t = ycl t) (h6 : amt t = yam t) (h7 : arg t = yar t) (hfe : ce_fe r0 st0 eg ygv el yel sev ecp sw mcp swm wcp srf rcp sst cps t e g w) (heg : e ≤ g) (hwW : w ≤ W) (hS : ce_FS (ce_fp r0 st0 len own ysf pos yat hgt ytp clr ycl amt yam arg yar eg ygv el yel sev ecp sw mcp swm wcp srf rcp sst cps) t g w q) (hCO : ce_CO ev wm xop xnum yop ybs len st ywm xms yms W) (ho1 : xop (24 * a + p) = nI k) (ho2 : yop (24 * a + p) = nI k) (hb1 : xnum (24 * a + p) = b) (hb2 : ybs (24 * a + p) = b) (hc : b &&& 3 = nI c) (hc4 : c < 4) (hk : k < 24) (hC : ce_cost k (bt wm (5 * a + c)) ≤ e) (hkk : k = 19) : ∃ j u' v', (j = 1 ∨ j = 2) ∧ ce_XJ j (xlim, xps, xvn, xkc, ev, nI W, wm, rf, nI (t + 1), ea, er, lr, lu, lc, xop, xnum, len, st, vers, evl, xms, own, clr, amt, arg, eg, el, pos, hgt, stk, sst, sev, sw, swm, srf) u' ∧ (∀ P : SY → Prop, P v' → wpY_step P (ylim, ev, nI W, rf, nI (t + 1), yend, yans, yrest, lc, yres, yused, ycalls, yver, ykept, yop, ybs, len, st, cps, old, bef, ywm, wcp, ecp, mcp, rcp, evl, yms, ysf, ycl, yam, yar, ygv, yel, yat, ytp, stk)) ∧ ce_ST xlim xps xvn xkc lr lu ylim yres yused ycalls yver ykept xop xnum len vers yop ybs old bef r0 st0 t (q + e) W u' v' := by
  have hg4 : g ≤ 1000 := hfe.2.2.2.2.1
  have hadd : h0 + ce_add k ≤ 6 := by
    have : ce_add k = 0 := by rw [hkk]; rfl
    omega
  have hn : ce_nx k b p (stk (6 * t + h0)) = nI p := by unfold ce_nx; rw [if_pos (by omega)]
  obtain ⟨u', v', hx, hy, hs⟩ := en_ok (res := stk (6 * t + h0)) (m := q + e) (e := e - ce_cost k (bt wm (5 * a + c))) (el := upd el t (nI (e - ce_cost k (bt wm (5 * a + c))))) (yel := upd yel t (nI (e - ce_cost k (bt wm (5 * a + c))))) (pos := upd pos t (nI p)) (yat := upd yat t (ce_ny k b p (stk (6 * t + h0)))) (hgt := upd hgt t (nI h0)) (ytp := upd ytp t (nI h0)) ht ⟨pk_us, pk_us, hfe.2.2⟩ (by omega) hwW (ce_FSc (fun j hj h e g w H => ce_fpc H) hS) hCO (by omega)
  exact ⟨1, u', v', Or.inl rfl, ce_XJ1 (by omega) (fun P hp => xs_ret ht ha h1 h3 h4 hp1 hpL ho1 hk hb1 hc hc4 hfe.1 (by omega) hC hh1 hh6 hadd (by omega) hn hpL hkk hx hp), fun P hp => ys_ret ht ha h2 h3 h4 hp2 hpL ho2 hk hb2 hc hc4 hfe.2.1 (by omega) hCO.2.2.2.2.1 hC hh2 hh6 hadd hkk hy hp, hs⟩
theorem st_rvt {t a p L k c h0 e g w q W : Nat} {b : Int32} (ht : t < 5) (ha : a < 6) (h1 : own t = nI a) (h2 : ysf t = nI a) (h3 : len a = nI L) (h4 : L ≤ 24) (hpL : p < L) (hp1 : pos t = nI p) (hp2 : yat t = nI p) (hh1 : hgt t = nI (h0 + ce_tkn k)) (hh2 : ytp t = nI (h0 + ce_tkn k)) (hh6 : h0 + ce_tkn k ≤ 6) (h5 : clr t = ycl t) (h6 : amt t = yam t) (h7 : arg t = yar t) (hfe : ce_fe r0 st0 eg ygv el yel sev ecp sw mcp swm wcp srf rcp sst cps t e g w) (heg : e ≤ g) (hwW : w ≤ W) (hS : ce_FS (ce_fp r0 st0 len own ysf pos yat hgt ytp clr ycl amt yam arg yar eg ygv el yel sev ecp sw mcp swm wcp srf rcp sst cps) t g w q) (hCO : ce_CO ev wm xop xnum yop ybs len st ywm xms yms W) (ho1 : xop (24 * a + p) = nI k) (ho2 : yop (24 * a + p) = nI k) (hb1 : xnum (24 * a + p) = b) (hb2 : ybs (24 * a + p) = b) (hc : b &&& 3 = nI c) (hc4 : c < 4) (hk : k < 24) (hC : ce_cost k (bt wm (5 * a + c)) ≤ e) (hkk : k = 20) : ∃ j u' v', (j = 1 ∨ j = 2) ∧ ce_XJ j (xlim, xps, xvn, xkc, ev, nI W, wm, rf, nI (t + 1), ea, er, lr, lu, lc, xop, xnum, len, st, vers, evl, xms, own, clr, amt, arg, eg, el, pos, hgt, stk, sst, sev, sw, swm, srf) u' ∧ (∀ P : SY → Prop, P v' → wpY_step P (ylim, ev, nI W, rf, nI (t + 1), yend, yans, yrest, lc, yres, yused, ycalls, yver, ykept, yop, ybs, len, st, cps, old, bef, ywm, wcp, ecp, mcp, rcp, evl, yms, ysf, ycl, yam, yar, ygv, yel, yat, ytp, stk)) ∧ ce_ST xlim xps xvn xkc lr lu ylim yres yused ycalls yver ykept xop xnum len vers yop ybs old bef r0 st0 t (q + e) W u' v' := by
  have hg4 : g ≤ 1000 := hfe.2.2.2.2.1
  have hadd : h0 + ce_add k ≤ 6 := by
    have : ce_add k = 0 := by rw [hkk]; rfl
    omega
  have hn : ce_nx k b p (stk (6 * t + h0)) = nI p := by unfold ce_nx; rw [if_pos (by omega)]
  obtain ⟨u', v', hx, hy, hs⟩ := en_rev (res := stk (6 * t + h0)) (m := q + e) (e := e - ce_cost k (bt wm (5 * a + c))) (el := upd el t (nI (e - ce_cost k (bt wm (5 * a + c))))) (yel := upd yel t (nI (e - ce_cost k (bt wm (5 * a + c))))) (pos := upd pos t (nI p)) (yat := upd yat t (ce_ny k b p (stk (6 * t + h0)))) (hgt := upd hgt t (nI h0)) (ytp := upd ytp t (nI h0)) ht ⟨pk_us, pk_us, hfe.2.2⟩ (by omega) hwW (ce_FSc (fun j hj h e g w H => ce_fpc H) hS) hCO (by omega)
  exact ⟨1, u', v', Or.inl rfl, ce_XJ1 (by omega) (fun P hp => xs_rvt ht ha h1 h3 h4 hp1 hpL ho1 hk hb1 hc hc4 hfe.1 (by omega) hC hh1 hh6 hadd (by omega) hn hpL hkk hx hp), fun P hp => ys_rvt ht ha h2 h3 h4 hp2 hpL ho2 hk hb2 hc hc4 hfe.2.1 (by omega) hCO.2.2.2.2.1 hC hh2 hh6 hadd hkk hy hp, hs⟩
end
end
section
section
variable {xlim xps xvn xkc ev wa wm rf dp ea er lr lu lc ylim yend yans yrest ybeg yres yused ycalls yver ykept : Int32} {xop xnum len st vers evl xms own clr amt arg eg el pos hgt stk sst sev sw swm srf yop ybs cps old bef ywm wcp ecp mcp rcp yms ysf ycl yam yar ygv yel yat ytp : Nat → Int32}
variable {r0 : Int32} {st0 : Nat → Int32}
theorem st_0 {t a p L c h0 e g w q W : Nat} {b : Int32} (ht : t < 5) (ha : a < 6) (h1 : own t = nI a) (h2 : ysf t = nI a) (h3 : len a = nI L) (h4 : L ≤ 24) (hpL : p < L) (hp1 : pos t = nI p) (hp2 : yat t = nI p) (hh1 : hgt t = nI (h0)) (hh2 : ytp t = nI (h0)) (hh6 : h0 ≤ 6) (h5 : clr t = ycl t) (h6 : amt t = yam t) (h7 : arg t = yar t) (hfe : ce_fe r0 st0 eg ygv el yel sev ecp sw mcp swm wcp srf rcp sst cps t e g w) (heg : e ≤ g) (hwW : w ≤ W) (hS : ce_FS (ce_fp r0 st0 len own ysf pos yat hgt ytp clr ycl amt yam arg yar eg ygv el yel sev ecp sw mcp swm wcp srf rcp sst cps) t g w q) (hCO : ce_CO ev wm xop xnum yop ybs len st ywm xms yms W) (ho1 : xop (24 * a + p) = nI 0) (ho2 : yop (24 * a + p) = nI 0) (hb1 : xnum (24 * a + p) = b) (hb2 : ybs (24 * a + p) = b) (hc : b &&& 3 = nI c) (hc4 : c < 4) (hC : ce_cost 0 (bt wm (5 * a + c)) ≤ e) (hadd : h0 + 1 ≤ 6) {p' : Nat} (hn : ce_ny 0 b p (stk (6 * t + h0)) = nI p') (hp' : p' < L) : ∃ j u' v', (j = 1 ∨ j = 2) ∧ ce_XJ j (xlim, xps, xvn, xkc, ev, nI W, wm, rf, nI (t + 1), ea, er, lr, lu, lc, xop, xnum, len, st, vers, evl, xms, own, clr, amt, arg, eg, el, pos, hgt, stk, sst, sev, sw, swm, srf) u' ∧ (∀ P : SY → Prop, P v' → wpY_step P (ylim, ev, nI W, rf, nI (t + 1), yend, yans, yrest, lc, yres, yused, ycalls, yver, ykept, yop, ybs, len, st, cps, old, bef, ywm, wcp, ecp, mcp, rcp, evl, yms, ysf, ycl, yam, yar, ygv, yel, yat, ytp, stk)) ∧ ce_ST xlim xps xvn xkc lr lu ylim yres yused ycalls yver ykept xop xnum len vers yop ybs old bef r0 st0 t (q + e) W u' v' := by
  have hg4 : g ≤ 1000 := hfe.2.2.2.2.1
  have hC1 := (ce_cost_le 0 (bt wm (5 * a + c))).1
  exact ⟨1, _, _, Or.inl rfl, ce_XJ1 (by omega) (fun P hp => xs_exe ht ha h1 h3 h4 hp1 hpL ho1 (by decide) hb1 hc hc4 hfe.1 (by omega) hC hh1 hh6 hadd (fun q => absurd q (by decide)) (by rw [ce_nxy (by decide) (by decide)]; exact hn) hp' (by decide) (by decide) (by decide) (fun P hp => xx_0 ht pk_us (by omega) (by rw [ce_uu]; exact hp)) hp), fun P hp => ys_sim ht ha h2 h3 h4 hp2 hpL ho2 (by decide) hb2 hc hc4 hfe.2.1 (by omega) hCO.2.2.2.2.1 hC hh2 hh6 hadd (by decide) (by decide) hn hp' (by decide) (fun P hp => yy_0 ht ha h2 hc hc4 hh2 (by omega) hp) hp, Or.inl ⟨t, q + (e - ce_cost 0 (bt wm (5 * a + c))), W, ce_stay (h' := h0 + 1)  ht ha h1 h2 h3 h4 hp' h5 h6 h7 (by omega) hfe (by omega) heg hwW hS hCO, by omega, by omega⟩⟩
theorem st_1 {t a p L c h0 e g w q W : Nat} {b : Int32} (ht : t < 5) (ha : a < 6) (h1 : own t = nI a) (h2 : ysf t = nI a) (h3 : len a = nI L) (h4 : L ≤ 24) (hpL : p < L) (hp1 : pos t = nI p) (hp2 : yat t = nI p) (hh1 : hgt t = nI (h0)) (hh2 : ytp t = nI (h0)) (hh6 : h0 ≤ 6) (h5 : clr t = ycl t) (h6 : amt t = yam t) (h7 : arg t = yar t) (hfe : ce_fe r0 st0 eg ygv el yel sev ecp sw mcp swm wcp srf rcp sst cps t e g w) (heg : e ≤ g) (hwW : w ≤ W) (hS : ce_FS (ce_fp r0 st0 len own ysf pos yat hgt ytp clr ycl amt yam arg yar eg ygv el yel sev ecp sw mcp swm wcp srf rcp sst cps) t g w q) (hCO : ce_CO ev wm xop xnum yop ybs len st ywm xms yms W) (ho1 : xop (24 * a + p) = nI 1) (ho2 : yop (24 * a + p) = nI 1) (hb1 : xnum (24 * a + p) = b) (hb2 : ybs (24 * a + p) = b) (hc : b &&& 3 = nI c) (hc4 : c < 4) (hC : ce_cost 1 (bt wm (5 * a + c)) ≤ e) (hadd : h0 + 1 ≤ 6) {p' : Nat} (hn : ce_ny 1 b p (stk (6 * t + h0)) = nI p') (hp' : p' < L) : ∃ j u' v', (j = 1 ∨ j = 2) ∧ ce_XJ j (xlim, xps, xvn, xkc, ev, nI W, wm, rf, nI (t + 1), ea, er, lr, lu, lc, xop, xnum, len, st, vers, evl, xms, own, clr, amt, arg, eg, el, pos, hgt, stk, sst, sev, sw, swm, srf) u' ∧ (∀ P : SY → Prop, P v' → wpY_step P (ylim, ev, nI W, rf, nI (t + 1), yend, yans, yrest, lc, yres, yused, ycalls, yver, ykept, yop, ybs, len, st, cps, old, bef, ywm, wcp, ecp, mcp, rcp, evl, yms, ysf, ycl, yam, yar, ygv, yel, yat, ytp, stk)) ∧ ce_ST xlim xps xvn xkc lr lu ylim yres yused ycalls yver ykept xop xnum len vers yop ybs old bef r0 st0 t (q + e) W u' v' := by
  have hg4 : g ≤ 1000 := hfe.2.2.2.2.1
  have hC1 := (ce_cost_le 1 (bt wm (5 * a + c))).1
  exact ⟨1, _, _, Or.inl rfl, ce_XJ1 (by omega) (fun P hp => xs_exe ht ha h1 h3 h4 hp1 hpL ho1 (by decide) hb1 hc hc4 hfe.1 (by omega) hC hh1 hh6 hadd (fun q => absurd q (by decide)) (by rw [ce_nxy (by decide) (by decide)]; exact hn) hp' (by decide) (by decide) (by decide) (fun P hp => xx_1 ht pk_us (by omega) (by rw [ce_uu]; exact hp)) hp), fun P hp => ys_sim ht ha h2 h3 h4 hp2 hpL ho2 (by decide) hb2 hc hc4 hfe.2.1 (by omega) hCO.2.2.2.2.1 hC hh2 hh6 hadd (by decide) (by decide) hn hp' (by decide) (fun P hp => yy_1 ht ha h2 hc hc4 hh2 (by omega) (by rw [← h7]; exact hp)) hp, Or.inl ⟨t, q + (e - ce_cost 1 (bt wm (5 * a + c))), W, ce_stay (h' := h0 + 1)  ht ha h1 h2 h3 h4 hp' h5 h6 h7 (by omega) hfe (by omega) heg hwW hS hCO, by omega, by omega⟩⟩
theorem st_2 {t a p L c h0 e g w q W : Nat} {b : Int32} (ht : t < 5) (ha : a < 6) (h1 : own t = nI a) (h2 : ysf t = nI a) (h3 : len a = nI L) (h4 : L ≤ 24) (hpL : p < L) (hp1 : pos t = nI p) (hp2 : yat t = nI p) (hh1 : hgt t = nI (h0)) (hh2 : ytp t = nI (h0)) (hh6 : h0 ≤ 6) (h5 : clr t = ycl t) (h6 : amt t = yam t) (h7 : arg t = yar t) (hfe : ce_fe r0 st0 eg ygv el yel sev ecp sw mcp swm wcp srf rcp sst cps t e g w) (heg : e ≤ g) (hwW : w ≤ W) (hS : ce_FS (ce_fp r0 st0 len own ysf pos yat hgt ytp clr ycl amt yam arg yar eg ygv el yel sev ecp sw mcp swm wcp srf rcp sst cps) t g w q) (hCO : ce_CO ev wm xop xnum yop ybs len st ywm xms yms W) (ho1 : xop (24 * a + p) = nI 2) (ho2 : yop (24 * a + p) = nI 2) (hb1 : xnum (24 * a + p) = b) (hb2 : ybs (24 * a + p) = b) (hc : b &&& 3 = nI c) (hc4 : c < 4) (hC : ce_cost 2 (bt wm (5 * a + c)) ≤ e) (hadd : h0 + 1 ≤ 6) {p' : Nat} (hn : ce_ny 2 b p (stk (6 * t + h0)) = nI p') (hp' : p' < L) : ∃ j u' v', (j = 1 ∨ j = 2) ∧ ce_XJ j (xlim, xps, xvn, xkc, ev, nI W, wm, rf, nI (t + 1), ea, er, lr, lu, lc, xop, xnum, len, st, vers, evl, xms, own, clr, amt, arg, eg, el, pos, hgt, stk, sst, sev, sw, swm, srf) u' ∧ (∀ P : SY → Prop, P v' → wpY_step P (ylim, ev, nI W, rf, nI (t + 1), yend, yans, yrest, lc, yres, yused, ycalls, yver, ykept, yop, ybs, len, st, cps, old, bef, ywm, wcp, ecp, mcp, rcp, evl, yms, ysf, ycl, yam, yar, ygv, yel, yat, ytp, stk)) ∧ ce_ST xlim xps xvn xkc lr lu ylim yres yused ycalls yver ykept xop xnum len vers yop ybs old bef r0 st0 t (q + e) W u' v' := by
  have hg4 : g ≤ 1000 := hfe.2.2.2.2.1
  have hC1 := (ce_cost_le 2 (bt wm (5 * a + c))).1
  exact ⟨1, _, _, Or.inl rfl, ce_XJ1 (by omega) (fun P hp => xs_exe ht ha h1 h3 h4 hp1 hpL ho1 (by decide) hb1 hc hc4 hfe.1 (by omega) hC hh1 hh6 hadd (fun q => absurd q (by decide)) (by rw [ce_nxy (by decide) (by decide)]; exact hn) hp' (by decide) (by decide) (by decide) (fun P hp => xx_2 ht pk_us (by omega) (by rw [ce_uu]; exact hp)) hp), fun P hp => ys_sim ht ha h2 h3 h4 hp2 hpL ho2 (by decide) hb2 hc hc4 hfe.2.1 (by omega) hCO.2.2.2.2.1 hC hh2 hh6 hadd (by decide) (by decide) hn hp' (by decide) (fun P hp => yy_2 ht ha h2 hc hc4 hh2 (by omega) (by rw [← h5]; exact hp)) hp, Or.inl ⟨t, q + (e - ce_cost 2 (bt wm (5 * a + c))), W, ce_stay (h' := h0 + 1)  ht ha h1 h2 h3 h4 hp' h5 h6 h7 (by omega) hfe (by omega) heg hwW hS hCO, by omega, by omega⟩⟩
theorem st_3 {t a p L c h0 e g w q W : Nat} {b : Int32} (ht : t < 5) (ha : a < 6) (h1 : own t = nI a) (h2 : ysf t = nI a) (h3 : len a = nI L) (h4 : L ≤ 24) (hpL : p < L) (hp1 : pos t = nI p) (hp2 : yat t = nI p) (hh1 : hgt t = nI (h0)) (hh2 : ytp t = nI (h0)) (hh6 : h0 ≤ 6) (h5 : clr t = ycl t) (h6 : amt t = yam t) (h7 : arg t = yar t) (hfe : ce_fe r0 st0 eg ygv el yel sev ecp sw mcp swm wcp srf rcp sst cps t e g w) (heg : e ≤ g) (hwW : w ≤ W) (hS : ce_FS (ce_fp r0 st0 len own ysf pos yat hgt ytp clr ycl amt yam arg yar eg ygv el yel sev ecp sw mcp swm wcp srf rcp sst cps) t g w q) (hCO : ce_CO ev wm xop xnum yop ybs len st ywm xms yms W) (ho1 : xop (24 * a + p) = nI 3) (ho2 : yop (24 * a + p) = nI 3) (hb1 : xnum (24 * a + p) = b) (hb2 : ybs (24 * a + p) = b) (hc : b &&& 3 = nI c) (hc4 : c < 4) (hC : ce_cost 3 (bt wm (5 * a + c)) ≤ e) (hadd : h0 + 1 ≤ 6) {p' : Nat} (hn : ce_ny 3 b p (stk (6 * t + h0)) = nI p') (hp' : p' < L) : ∃ j u' v', (j = 1 ∨ j = 2) ∧ ce_XJ j (xlim, xps, xvn, xkc, ev, nI W, wm, rf, nI (t + 1), ea, er, lr, lu, lc, xop, xnum, len, st, vers, evl, xms, own, clr, amt, arg, eg, el, pos, hgt, stk, sst, sev, sw, swm, srf) u' ∧ (∀ P : SY → Prop, P v' → wpY_step P (ylim, ev, nI W, rf, nI (t + 1), yend, yans, yrest, lc, yres, yused, ycalls, yver, ykept, yop, ybs, len, st, cps, old, bef, ywm, wcp, ecp, mcp, rcp, evl, yms, ysf, ycl, yam, yar, ygv, yel, yat, ytp, stk)) ∧ ce_ST xlim xps xvn xkc lr lu ylim yres yused ycalls yver ykept xop xnum len vers yop ybs old bef r0 st0 t (q + e) W u' v' := by
  have hg4 : g ≤ 1000 := hfe.2.2.2.2.1
  have hC1 := (ce_cost_le 3 (bt wm (5 * a + c))).1
  exact ⟨1, _, _, Or.inl rfl, ce_XJ1 (by omega) (fun P hp => xs_exe ht ha h1 h3 h4 hp1 hpL ho1 (by decide) hb1 hc hc4 hfe.1 (by omega) hC hh1 hh6 hadd (fun q => absurd q (by decide)) (by rw [ce_nxy (by decide) (by decide)]; exact hn) hp' (by decide) (by decide) (by decide) (fun P hp => xx_3 ht pk_us (by omega) (by rw [ce_uu, h1]; exact hp)) hp), fun P hp => ys_sim ht ha h2 h3 h4 hp2 hpL ho2 (by decide) hb2 hc hc4 hfe.2.1 (by omega) hCO.2.2.2.2.1 hC hh2 hh6 hadd (by decide) (by decide) hn hp' (by decide) (fun P hp => yy_3 ht ha h2 hc hc4 hh2 (by omega) (by rw [h2]; exact hp)) hp, Or.inl ⟨t, q + (e - ce_cost 3 (bt wm (5 * a + c))), W, ce_stay (h' := h0 + 1)  ht ha h1 h2 h3 h4 hp' h5 h6 h7 (by omega) hfe (by omega) heg hwW hS hCO, by omega, by omega⟩⟩
theorem st_4 {t a p L c h0 e g w q W : Nat} {b : Int32} (ht : t < 5) (ha : a < 6) (h1 : own t = nI a) (h2 : ysf t = nI a) (h3 : len a = nI L) (h4 : L ≤ 24) (hpL : p < L) (hp1 : pos t = nI p) (hp2 : yat t = nI p) (hh1 : hgt t = nI (h0)) (hh2 : ytp t = nI (h0)) (hh6 : h0 ≤ 6) (h5 : clr t = ycl t) (h6 : amt t = yam t) (h7 : arg t = yar t) (hfe : ce_fe r0 st0 eg ygv el yel sev ecp sw mcp swm wcp srf rcp sst cps t e g w) (heg : e ≤ g) (hwW : w ≤ W) (hS : ce_FS (ce_fp r0 st0 len own ysf pos yat hgt ytp clr ycl amt yam arg yar eg ygv el yel sev ecp sw mcp swm wcp srf rcp sst cps) t g w q) (hCO : ce_CO ev wm xop xnum yop ybs len st ywm xms yms W) (ho1 : xop (24 * a + p) = nI 4) (ho2 : yop (24 * a + p) = nI 4) (hb1 : xnum (24 * a + p) = b) (hb2 : ybs (24 * a + p) = b) (hc : b &&& 3 = nI c) (hc4 : c < 4) (hC : ce_cost 4 (bt wm (5 * a + c)) ≤ e) (hadd : h0 + 1 ≤ 6) {p' : Nat} (hn : ce_ny 4 b p (stk (6 * t + h0)) = nI p') (hp' : p' < L) : ∃ j u' v', (j = 1 ∨ j = 2) ∧ ce_XJ j (xlim, xps, xvn, xkc, ev, nI W, wm, rf, nI (t + 1), ea, er, lr, lu, lc, xop, xnum, len, st, vers, evl, xms, own, clr, amt, arg, eg, el, pos, hgt, stk, sst, sev, sw, swm, srf) u' ∧ (∀ P : SY → Prop, P v' → wpY_step P (ylim, ev, nI W, rf, nI (t + 1), yend, yans, yrest, lc, yres, yused, ycalls, yver, ykept, yop, ybs, len, st, cps, old, bef, ywm, wcp, ecp, mcp, rcp, evl, yms, ysf, ycl, yam, yar, ygv, yel, yat, ytp, stk)) ∧ ce_ST xlim xps xvn xkc lr lu ylim yres yused ycalls yver ykept xop xnum len vers yop ybs old bef r0 st0 t (q + e) W u' v' := by
  have hg4 : g ≤ 1000 := hfe.2.2.2.2.1
  have hC1 := (ce_cost_le 4 (bt wm (5 * a + c))).1
  exact ⟨1, _, _, Or.inl rfl, ce_XJ1 (by omega) (fun P hp => xs_exe ht ha h1 h3 h4 hp1 hpL ho1 (by decide) hb1 hc hc4 hfe.1 (by omega) hC hh1 hh6 hadd (fun q => absurd q (by decide)) (by rw [ce_nxy (by decide) (by decide)]; exact hn) hp' (by decide) (by decide) (by decide) (fun P hp => xx_4 ht pk_us (by omega) (by rw [ce_uu]; exact hp)) hp), fun P hp => ys_sim ht ha h2 h3 h4 hp2 hpL ho2 (by decide) hb2 hc hc4 hfe.2.1 (by omega) hCO.2.2.2.2.1 hC hh2 hh6 hadd (by decide) (by decide) hn hp' (by decide) (fun P hp => yy_4 ht ha h2 hc hc4 hh2 (by omega) (by rw [← h6]; exact hp)) hp, Or.inl ⟨t, q + (e - ce_cost 4 (bt wm (5 * a + c))), W, ce_stay (h' := h0 + 1)  ht ha h1 h2 h3 h4 hp' h5 h6 h7 (by omega) hfe (by omega) heg hwW hS hCO, by omega, by omega⟩⟩
theorem st_22 {t a p L c h0 e g w q W : Nat} {b : Int32} (ht : t < 5) (ha : a < 6) (h1 : own t = nI a) (h2 : ysf t = nI a) (h3 : len a = nI L) (h4 : L ≤ 24) (hpL : p < L) (hp1 : pos t = nI p) (hp2 : yat t = nI p) (hh1 : hgt t = nI (h0)) (hh2 : ytp t = nI (h0)) (hh6 : h0 ≤ 6) (h5 : clr t = ycl t) (h6 : amt t = yam t) (h7 : arg t = yar t) (hfe : ce_fe r0 st0 eg ygv el yel sev ecp sw mcp swm wcp srf rcp sst cps t e g w) (heg : e ≤ g) (hwW : w ≤ W) (hS : ce_FS (ce_fp r0 st0 len own ysf pos yat hgt ytp clr ycl amt yam arg yar eg ygv el yel sev ecp sw mcp swm wcp srf rcp sst cps) t g w q) (hCO : ce_CO ev wm xop xnum yop ybs len st ywm xms yms W) (ho1 : xop (24 * a + p) = nI 22) (ho2 : yop (24 * a + p) = nI 22) (hb1 : xnum (24 * a + p) = b) (hb2 : ybs (24 * a + p) = b) (hc : b &&& 3 = nI c) (hc4 : c < 4) (hC : ce_cost 22 (bt wm (5 * a + c)) ≤ e) (hadd : h0 + 1 ≤ 6) {p' : Nat} (hn : ce_ny 22 b p (stk (6 * t + h0)) = nI p') (hp' : p' < L) : ∃ j u' v', (j = 1 ∨ j = 2) ∧ ce_XJ j (xlim, xps, xvn, xkc, ev, nI W, wm, rf, nI (t + 1), ea, er, lr, lu, lc, xop, xnum, len, st, vers, evl, xms, own, clr, amt, arg, eg, el, pos, hgt, stk, sst, sev, sw, swm, srf) u' ∧ (∀ P : SY → Prop, P v' → wpY_step P (ylim, ev, nI W, rf, nI (t + 1), yend, yans, yrest, lc, yres, yused, ycalls, yver, ykept, yop, ybs, len, st, cps, old, bef, ywm, wcp, ecp, mcp, rcp, evl, yms, ysf, ycl, yam, yar, ygv, yel, yat, ytp, stk)) ∧ ce_ST xlim xps xvn xkc lr lu ylim yres yused ycalls yver ykept xop xnum len vers yop ybs old bef r0 st0 t (q + e) W u' v' := by
  have hg4 : g ≤ 1000 := hfe.2.2.2.2.1
  have hC1 := (ce_cost_le 22 (bt wm (5 * a + c))).1
  exact ⟨1, _, _, Or.inl rfl, ce_XJ1 (by omega) (fun P hp => xs_exe ht ha h1 h3 h4 hp1 hpL ho1 (by decide) hb1 hc hc4 hfe.1 (by omega) hC hh1 hh6 hadd (fun q => absurd q (by decide)) (by rw [ce_nxy (by decide) (by decide)]; exact hn) hp' (by decide) (by decide) (by decide) (fun P hp => xx_22 ht pk_us (by omega) (by rw [ce_uu, pk_us]; exact hp)) hp), fun P hp => ys_oth ht ha h2 h3 h4 hp2 hpL ho2 (by decide) hb2 hc hc4 hfe.2.1 (by omega) hCO.2.2.2.2.1 hC hh2 hh6 hadd (by decide) (by decide) hn hp' (by decide) (fun P hp => yy_22 ht hh2 (by omega) (by rw [pk_us]; exact hp)) hp, Or.inl ⟨t, q + (e - ce_cost 22 (bt wm (5 * a + c))), W, ce_stay (h' := h0 + 1)  ht ha h1 h2 h3 h4 hp' h5 h6 h7 (by omega) hfe (by omega) heg hwW hS hCO, by omega, by omega⟩⟩
theorem st_5 {t a p L c h0 e g w q W : Nat} {b : Int32} (ht : t < 5) (ha : a < 6) (h1 : own t = nI a) (h2 : ysf t = nI a) (h3 : len a = nI L) (h4 : L ≤ 24) (hpL : p < L) (hp1 : pos t = nI p) (hp2 : yat t = nI p) (hh1 : hgt t = nI (h0 + 1)) (hh2 : ytp t = nI (h0 + 1)) (hh6 : h0 + 1 ≤ 6) (h5 : clr t = ycl t) (h6 : amt t = yam t) (h7 : arg t = yar t) (hfe : ce_fe r0 st0 eg ygv el yel sev ecp sw mcp swm wcp srf rcp sst cps t e g w) (heg : e ≤ g) (hwW : w ≤ W) (hS : ce_FS (ce_fp r0 st0 len own ysf pos yat hgt ytp clr ycl amt yam arg yar eg ygv el yel sev ecp sw mcp swm wcp srf rcp sst cps) t g w q) (hCO : ce_CO ev wm xop xnum yop ybs len st ywm xms yms W) (ho1 : xop (24 * a + p) = nI 5) (ho2 : yop (24 * a + p) = nI 5) (hb1 : xnum (24 * a + p) = b) (hb2 : ybs (24 * a + p) = b) (hc : b &&& 3 = nI c) (hc4 : c < 4) (hC : ce_cost 5 (bt wm (5 * a + c)) ≤ e) (hadd : h0 + 1 ≤ 6) {p' : Nat} (hn : ce_ny 5 b p (stk (6 * t + h0)) = nI p') (hp' : p' < L) : ∃ j u' v', (j = 1 ∨ j = 2) ∧ ce_XJ j (xlim, xps, xvn, xkc, ev, nI W, wm, rf, nI (t + 1), ea, er, lr, lu, lc, xop, xnum, len, st, vers, evl, xms, own, clr, amt, arg, eg, el, pos, hgt, stk, sst, sev, sw, swm, srf) u' ∧ (∀ P : SY → Prop, P v' → wpY_step P (ylim, ev, nI W, rf, nI (t + 1), yend, yans, yrest, lc, yres, yused, ycalls, yver, ykept, yop, ybs, len, st, cps, old, bef, ywm, wcp, ecp, mcp, rcp, evl, yms, ysf, ycl, yam, yar, ygv, yel, yat, ytp, stk)) ∧ ce_ST xlim xps xvn xkc lr lu ylim yres yused ycalls yver ykept xop xnum len vers yop ybs old bef r0 st0 t (q + e) W u' v' := by
  have hg4 : g ≤ 1000 := hfe.2.2.2.2.1
  have hC1 := (ce_cost_le 5 (bt wm (5 * a + c))).1
  exact ⟨1, _, _, Or.inl rfl, ce_XJ1 (by omega) (fun P hp => xs_exe ht ha h1 h3 h4 hp1 hpL ho1 (by decide) hb1 hc hc4 hfe.1 (by omega) hC hh1 hh6 hadd (fun q => absurd q (by decide)) (by rw [ce_nxy (by decide) (by decide)]; exact hn) hp' (by decide) (by decide) (by decide) (fun P hp => xx_5 ht pk_us (by omega) (by rw [ce_uu]; exact hp)) hp), fun P hp => ys_sim ht ha h2 h3 h4 hp2 hpL ho2 (by decide) hb2 hc hc4 hfe.2.1 (by omega) hCO.2.2.2.2.1 hC hh2 hh6 hadd (by decide) (by decide) hn hp' (by decide) (fun P hp => yy_5 ht ha h2 hc hc4 hh2 (by omega) hp) hp, Or.inl ⟨t, q + (e - ce_cost 5 (bt wm (5 * a + c))), W, ce_stay (h' := h0 + 1)  ht ha h1 h2 h3 h4 hp' h5 h6 h7 (by omega) hfe (by omega) heg hwW hS hCO, by omega, by omega⟩⟩
theorem st_6 {t a p L c h0 e g w q W : Nat} {b : Int32} (ht : t < 5) (ha : a < 6) (h1 : own t = nI a) (h2 : ysf t = nI a) (h3 : len a = nI L) (h4 : L ≤ 24) (hpL : p < L) (hp1 : pos t = nI p) (hp2 : yat t = nI p) (hh1 : hgt t = nI (h0)) (hh2 : ytp t = nI (h0)) (hh6 : h0 ≤ 6) (h5 : clr t = ycl t) (h6 : amt t = yam t) (h7 : arg t = yar t) (hfe : ce_fe r0 st0 eg ygv el yel sev ecp sw mcp swm wcp srf rcp sst cps t e g w) (heg : e ≤ g) (hwW : w ≤ W) (hS : ce_FS (ce_fp r0 st0 len own ysf pos yat hgt ytp clr ycl amt yam arg yar eg ygv el yel sev ecp sw mcp swm wcp srf rcp sst cps) t g w q) (hCO : ce_CO ev wm xop xnum yop ybs len st ywm xms yms W) (ho1 : xop (24 * a + p) = nI 6) (ho2 : yop (24 * a + p) = nI 6) (hb1 : xnum (24 * a + p) = b) (hb2 : ybs (24 * a + p) = b) (hc : b &&& 3 = nI c) (hc4 : c < 4) (hC : ce_cost 6 (bt wm (5 * a + c)) ≤ e) (hadd : h0 + 1 ≤ 6) {p' : Nat} (hn : ce_ny 6 b p (stk (6 * t + h0)) = nI p') (hp' : p' < L) : ∃ j u' v', (j = 1 ∨ j = 2) ∧ ce_XJ j (xlim, xps, xvn, xkc, ev, nI W, wm, rf, nI (t + 1), ea, er, lr, lu, lc, xop, xnum, len, st, vers, evl, xms, own, clr, amt, arg, eg, el, pos, hgt, stk, sst, sev, sw, swm, srf) u' ∧ (∀ P : SY → Prop, P v' → wpY_step P (ylim, ev, nI W, rf, nI (t + 1), yend, yans, yrest, lc, yres, yused, ycalls, yver, ykept, yop, ybs, len, st, cps, old, bef, ywm, wcp, ecp, mcp, rcp, evl, yms, ysf, ycl, yam, yar, ygv, yel, yat, ytp, stk)) ∧ ce_ST xlim xps xvn xkc lr lu ylim yres yused ycalls yver ykept xop xnum len vers yop ybs old bef r0 st0 t (q + e) W u' v' := by
  have hg4 : g ≤ 1000 := hfe.2.2.2.2.1
  have hC1 := (ce_cost_le 6 (bt wm (5 * a + c))).1
  exact ⟨1, _, _, Or.inl rfl, ce_XJ1 (by omega) (fun P hp => xs_exe ht ha h1 h3 h4 hp1 hpL ho1 (by decide) hb1 hc hc4 hfe.1 (by omega) hC hh1 hh6 hadd (fun q => absurd q (by decide)) (by rw [ce_nxy (by decide) (by decide)]; exact hn) hp' (by decide) (by decide) (by decide) (fun P hp => xx_6 ht pk_us (by omega) ha h1 hc hc4 (by rw [ce_uu]; exact hp)) hp), fun P hp => ys_sim ht ha h2 h3 h4 hp2 hpL ho2 (by decide) hb2 hc hc4 hfe.2.1 (by omega) hCO.2.2.2.2.1 hC hh2 hh6 hadd (by decide) (by decide) hn hp' (by decide) (fun P hp => yy_6 ht ha h2 hc hc4 hh2 (by omega) hp) hp, Or.inl ⟨t, q + (e - ce_cost 6 (bt wm (5 * a + c))), W, ce_stay (h' := h0 + 1)  ht ha h1 h2 h3 h4 hp' h5 h6 h7 (by omega) hfe (by omega) heg hwW hS ⟨hCO.1, hCO.2.1, hCO.2.2.1, hCO.2.2.2.1, ce_WRset hCO.2.2.2.2.1 ha hc4, hCO.2.2.2.2.2⟩, by omega, by omega⟩⟩
theorem st_7 {t a p L c h0 e g w q W : Nat} {b : Int32} (ht : t < 5) (ha : a < 6) (h1 : own t = nI a) (h2 : ysf t = nI a) (h3 : len a = nI L) (h4 : L ≤ 24) (hpL : p < L) (hp1 : pos t = nI p) (hp2 : yat t = nI p) (hh1 : hgt t = nI (h0 + 1)) (hh2 : ytp t = nI (h0 + 1)) (hh6 : h0 + 1 ≤ 6) (h5 : clr t = ycl t) (h6 : amt t = yam t) (h7 : arg t = yar t) (hfe : ce_fe r0 st0 eg ygv el yel sev ecp sw mcp swm wcp srf rcp sst cps t e g w) (heg : e ≤ g) (hwW : w ≤ W) (hS : ce_FS (ce_fp r0 st0 len own ysf pos yat hgt ytp clr ycl amt yam arg yar eg ygv el yel sev ecp sw mcp swm wcp srf rcp sst cps) t g w q) (hCO : ce_CO ev wm xop xnum yop ybs len st ywm xms yms W) (ho1 : xop (24 * a + p) = nI 7) (ho2 : yop (24 * a + p) = nI 7) (hb1 : xnum (24 * a + p) = b) (hb2 : ybs (24 * a + p) = b) (hc : b &&& 3 = nI c) (hc4 : c < 4) (hC : ce_cost 7 (bt wm (5 * a + c)) ≤ e) (hadd : h0 + 0 ≤ 6) {p' : Nat} (hn : ce_ny 7 b p (stk (6 * t + h0)) = nI p') (hp' : p' < L) : ∃ j u' v', (j = 1 ∨ j = 2) ∧ ce_XJ j (xlim, xps, xvn, xkc, ev, nI W, wm, rf, nI (t + 1), ea, er, lr, lu, lc, xop, xnum, len, st, vers, evl, xms, own, clr, amt, arg, eg, el, pos, hgt, stk, sst, sev, sw, swm, srf) u' ∧ (∀ P : SY → Prop, P v' → wpY_step P (ylim, ev, nI W, rf, nI (t + 1), yend, yans, yrest, lc, yres, yused, ycalls, yver, ykept, yop, ybs, len, st, cps, old, bef, ywm, wcp, ecp, mcp, rcp, evl, yms, ysf, ycl, yam, yar, ygv, yel, yat, ytp, stk)) ∧ ce_ST xlim xps xvn xkc lr lu ylim yres yused ycalls yver ykept xop xnum len vers yop ybs old bef r0 st0 t (q + e) W u' v' := by
  have hg4 : g ≤ 1000 := hfe.2.2.2.2.1
  have hC1 := (ce_cost_le 7 (bt wm (5 * a + c))).1
  exact ⟨1, _, _, Or.inl rfl, ce_XJ1 (by omega) (fun P hp => xs_exe ht ha h1 h3 h4 hp1 hpL ho1 (by decide) hb1 hc hc4 hfe.1 (by omega) hC hh1 hh6 hadd (fun q => absurd q (by decide)) (by rw [ce_nxy (by decide) (by decide)]; exact hn) hp' (by decide) (by decide) (by decide) (fun P hp => xx_7 ht pk_us (by omega) ha h1 hc hc4 hp) hp), fun P hp => ys_sim ht ha h2 h3 h4 hp2 hpL ho2 (by decide) hb2 hc hc4 hfe.2.1 (by omega) hCO.2.2.2.2.1 hC hh2 hh6 hadd (by decide) (by decide) hn hp' (by decide) (fun P hp => yy_7 ht ha h2 hc hc4 hh2 (by omega) hp) hp, Or.inl ⟨t, q + (e - ce_cost 7 (bt wm (5 * a + c))), W, ce_stay (h' := h0)  ht ha h1 h2 h3 h4 hp' h5 h6 h7 (by omega) hfe (by omega) heg hwW hS ⟨hCO.1, hCO.2.1, hCO.2.2.1, ce_BLcell hCO.2.2.2.1 hc4, ce_WRset hCO.2.2.2.2.1 ha hc4, hCO.2.2.2.2.2⟩, by omega, by omega⟩⟩
theorem st_8 {t a p L c h0 e g w q W : Nat} {b : Int32} (ht : t < 5) (ha : a < 6) (h1 : own t = nI a) (h2 : ysf t = nI a) (h3 : len a = nI L) (h4 : L ≤ 24) (hpL : p < L) (hp1 : pos t = nI p) (hp2 : yat t = nI p) (hh1 : hgt t = nI (h0 + 2)) (hh2 : ytp t = nI (h0 + 2)) (hh6 : h0 + 2 ≤ 6) (h5 : clr t = ycl t) (h6 : amt t = yam t) (h7 : arg t = yar t) (hfe : ce_fe r0 st0 eg ygv el yel sev ecp sw mcp swm wcp srf rcp sst cps t e g w) (heg : e ≤ g) (hwW : w ≤ W) (hS : ce_FS (ce_fp r0 st0 len own ysf pos yat hgt ytp clr ycl amt yam arg yar eg ygv el yel sev ecp sw mcp swm wcp srf rcp sst cps) t g w q) (hCO : ce_CO ev wm xop xnum yop ybs len st ywm xms yms W) (ho1 : xop (24 * a + p) = nI 8) (ho2 : yop (24 * a + p) = nI 8) (hb1 : xnum (24 * a + p) = b) (hb2 : ybs (24 * a + p) = b) (hc : b &&& 3 = nI c) (hc4 : c < 4) (hC : ce_cost 8 (bt wm (5 * a + c)) ≤ e) (hadd : h0 + 1 ≤ 6) {p' : Nat} (hn : ce_ny 8 b p (stk (6 * t + h0)) = nI p') (hp' : p' < L) : ∃ j u' v', (j = 1 ∨ j = 2) ∧ ce_XJ j (xlim, xps, xvn, xkc, ev, nI W, wm, rf, nI (t + 1), ea, er, lr, lu, lc, xop, xnum, len, st, vers, evl, xms, own, clr, amt, arg, eg, el, pos, hgt, stk, sst, sev, sw, swm, srf) u' ∧ (∀ P : SY → Prop, P v' → wpY_step P (ylim, ev, nI W, rf, nI (t + 1), yend, yans, yrest, lc, yres, yused, ycalls, yver, ykept, yop, ybs, len, st, cps, old, bef, ywm, wcp, ecp, mcp, rcp, evl, yms, ysf, ycl, yam, yar, ygv, yel, yat, ytp, stk)) ∧ ce_ST xlim xps xvn xkc lr lu ylim yres yused ycalls yver ykept xop xnum len vers yop ybs old bef r0 st0 t (q + e) W u' v' := by
  have hg4 : g ≤ 1000 := hfe.2.2.2.2.1
  have hC1 := (ce_cost_le 8 (bt wm (5 * a + c))).1
  exact ⟨1, _, _, Or.inl rfl, ce_XJ1 (by omega) (fun P hp => xs_exe ht ha h1 h3 h4 hp1 hpL ho1 (by decide) hb1 hc hc4 hfe.1 (by omega) hC hh1 hh6 hadd (fun q => absurd q (by decide)) (by rw [ce_nxy (by decide) (by decide)]; exact hn) hp' (by decide) (by decide) (by decide) (fun P hp => xx_8 ht pk_us (by omega) (by rw [ce_uu]; exact hp)) hp), fun P hp => ys_stk ht ha h2 h3 h4 hp2 hpL ho2 (by decide) hb2 hc hc4 hfe.2.1 (by omega) hCO.2.2.2.2.1 hC hh2 hh6 hadd (by decide) (by decide) hn hp' (by decide) (by decide) (fun P hp => yy_8 ht hh2 (by omega) hp) hp, Or.inl ⟨t, q + (e - ce_cost 8 (bt wm (5 * a + c))), W, ce_stay (h' := h0 + 1)  ht ha h1 h2 h3 h4 hp' h5 h6 h7 (by omega) hfe (by omega) heg hwW hS hCO, by omega, by omega⟩⟩
theorem st_9 {t a p L c h0 e g w q W : Nat} {b : Int32} (ht : t < 5) (ha : a < 6) (h1 : own t = nI a) (h2 : ysf t = nI a) (h3 : len a = nI L) (h4 : L ≤ 24) (hpL : p < L) (hp1 : pos t = nI p) (hp2 : yat t = nI p) (hh1 : hgt t = nI (h0 + 2)) (hh2 : ytp t = nI (h0 + 2)) (hh6 : h0 + 2 ≤ 6) (h5 : clr t = ycl t) (h6 : amt t = yam t) (h7 : arg t = yar t) (hfe : ce_fe r0 st0 eg ygv el yel sev ecp sw mcp swm wcp srf rcp sst cps t e g w) (heg : e ≤ g) (hwW : w ≤ W) (hS : ce_FS (ce_fp r0 st0 len own ysf pos yat hgt ytp clr ycl amt yam arg yar eg ygv el yel sev ecp sw mcp swm wcp srf rcp sst cps) t g w q) (hCO : ce_CO ev wm xop xnum yop ybs len st ywm xms yms W) (ho1 : xop (24 * a + p) = nI 9) (ho2 : yop (24 * a + p) = nI 9) (hb1 : xnum (24 * a + p) = b) (hb2 : ybs (24 * a + p) = b) (hc : b &&& 3 = nI c) (hc4 : c < 4) (hC : ce_cost 9 (bt wm (5 * a + c)) ≤ e) (hadd : h0 + 1 ≤ 6) {p' : Nat} (hn : ce_ny 9 b p (stk (6 * t + h0)) = nI p') (hp' : p' < L) : ∃ j u' v', (j = 1 ∨ j = 2) ∧ ce_XJ j (xlim, xps, xvn, xkc, ev, nI W, wm, rf, nI (t + 1), ea, er, lr, lu, lc, xop, xnum, len, st, vers, evl, xms, own, clr, amt, arg, eg, el, pos, hgt, stk, sst, sev, sw, swm, srf) u' ∧ (∀ P : SY → Prop, P v' → wpY_step P (ylim, ev, nI W, rf, nI (t + 1), yend, yans, yrest, lc, yres, yused, ycalls, yver, ykept, yop, ybs, len, st, cps, old, bef, ywm, wcp, ecp, mcp, rcp, evl, yms, ysf, ycl, yam, yar, ygv, yel, yat, ytp, stk)) ∧ ce_ST xlim xps xvn xkc lr lu ylim yres yused ycalls yver ykept xop xnum len vers yop ybs old bef r0 st0 t (q + e) W u' v' := by
  have hg4 : g ≤ 1000 := hfe.2.2.2.2.1
  have hC1 := (ce_cost_le 9 (bt wm (5 * a + c))).1
  exact ⟨1, _, _, Or.inl rfl, ce_XJ1 (by omega) (fun P hp => xs_exe ht ha h1 h3 h4 hp1 hpL ho1 (by decide) hb1 hc hc4 hfe.1 (by omega) hC hh1 hh6 hadd (fun q => absurd q (by decide)) (by rw [ce_nxy (by decide) (by decide)]; exact hn) hp' (by decide) (by decide) (by decide) (fun P hp => xx_9 ht pk_us (by omega) (by rw [ce_uu]; exact hp)) hp), fun P hp => ys_stk ht ha h2 h3 h4 hp2 hpL ho2 (by decide) hb2 hc hc4 hfe.2.1 (by omega) hCO.2.2.2.2.1 hC hh2 hh6 hadd (by decide) (by decide) hn hp' (by decide) (by decide) (fun P hp => yy_9 ht hh2 (by omega) hp) hp, Or.inl ⟨t, q + (e - ce_cost 9 (bt wm (5 * a + c))), W, ce_stay (h' := h0 + 1)  ht ha h1 h2 h3 h4 hp' h5 h6 h7 (by omega) hfe (by omega) heg hwW hS hCO, by omega, by omega⟩⟩
theorem st_10 {t a p L c h0 e g w q W : Nat} {b : Int32} (ht : t < 5) (ha : a < 6) (h1 : own t = nI a) (h2 : ysf t = nI a) (h3 : len a = nI L) (h4 : L ≤ 24) (hpL : p < L) (hp1 : pos t = nI p) (hp2 : yat t = nI p) (hh1 : hgt t = nI (h0 + 2)) (hh2 : ytp t = nI (h0 + 2)) (hh6 : h0 + 2 ≤ 6) (h5 : clr t = ycl t) (h6 : amt t = yam t) (h7 : arg t = yar t) (hfe : ce_fe r0 st0 eg ygv el yel sev ecp sw mcp swm wcp srf rcp sst cps t e g w) (heg : e ≤ g) (hwW : w ≤ W) (hS : ce_FS (ce_fp r0 st0 len own ysf pos yat hgt ytp clr ycl amt yam arg yar eg ygv el yel sev ecp sw mcp swm wcp srf rcp sst cps) t g w q) (hCO : ce_CO ev wm xop xnum yop ybs len st ywm xms yms W) (ho1 : xop (24 * a + p) = nI 10) (ho2 : yop (24 * a + p) = nI 10) (hb1 : xnum (24 * a + p) = b) (hb2 : ybs (24 * a + p) = b) (hc : b &&& 3 = nI c) (hc4 : c < 4) (hC : ce_cost 10 (bt wm (5 * a + c)) ≤ e) (hadd : h0 + 1 ≤ 6) {p' : Nat} (hn : ce_ny 10 b p (stk (6 * t + h0)) = nI p') (hp' : p' < L) : ∃ j u' v', (j = 1 ∨ j = 2) ∧ ce_XJ j (xlim, xps, xvn, xkc, ev, nI W, wm, rf, nI (t + 1), ea, er, lr, lu, lc, xop, xnum, len, st, vers, evl, xms, own, clr, amt, arg, eg, el, pos, hgt, stk, sst, sev, sw, swm, srf) u' ∧ (∀ P : SY → Prop, P v' → wpY_step P (ylim, ev, nI W, rf, nI (t + 1), yend, yans, yrest, lc, yres, yused, ycalls, yver, ykept, yop, ybs, len, st, cps, old, bef, ywm, wcp, ecp, mcp, rcp, evl, yms, ysf, ycl, yam, yar, ygv, yel, yat, ytp, stk)) ∧ ce_ST xlim xps xvn xkc lr lu ylim yres yused ycalls yver ykept xop xnum len vers yop ybs old bef r0 st0 t (q + e) W u' v' := by
  have hg4 : g ≤ 1000 := hfe.2.2.2.2.1
  have hC1 := (ce_cost_le 10 (bt wm (5 * a + c))).1
  exact ⟨1, _, _, Or.inl rfl, ce_XJ1 (by omega) (fun P hp => xs_exe ht ha h1 h3 h4 hp1 hpL ho1 (by decide) hb1 hc hc4 hfe.1 (by omega) hC hh1 hh6 hadd (fun q => absurd q (by decide)) (by rw [ce_nxy (by decide) (by decide)]; exact hn) hp' (by decide) (by decide) (by decide) (fun P hp => xx_10 ht pk_us (by omega) (by rw [ce_uu]; exact hp)) hp), fun P hp => ys_stk ht ha h2 h3 h4 hp2 hpL ho2 (by decide) hb2 hc hc4 hfe.2.1 (by omega) hCO.2.2.2.2.1 hC hh2 hh6 hadd (by decide) (by decide) hn hp' (by decide) (by decide) (fun P hp => yy_10 ht hh2 (by omega) hp) hp, Or.inl ⟨t, q + (e - ce_cost 10 (bt wm (5 * a + c))), W, ce_stay (h' := h0 + 1)  ht ha h1 h2 h3 h4 hp' h5 h6 h7 (by omega) hfe (by omega) heg hwW hS hCO, by omega, by omega⟩⟩
theorem st_11 {t a p L c h0 e g w q W : Nat} {b : Int32} (ht : t < 5) (ha : a < 6) (h1 : own t = nI a) (h2 : ysf t = nI a) (h3 : len a = nI L) (h4 : L ≤ 24) (hpL : p < L) (hp1 : pos t = nI p) (hp2 : yat t = nI p) (hh1 : hgt t = nI (h0 + 2)) (hh2 : ytp t = nI (h0 + 2)) (hh6 : h0 + 2 ≤ 6) (h5 : clr t = ycl t) (h6 : amt t = yam t) (h7 : arg t = yar t) (hfe : ce_fe r0 st0 eg ygv el yel sev ecp sw mcp swm wcp srf rcp sst cps t e g w) (heg : e ≤ g) (hwW : w ≤ W) (hS : ce_FS (ce_fp r0 st0 len own ysf pos yat hgt ytp clr ycl amt yam arg yar eg ygv el yel sev ecp sw mcp swm wcp srf rcp sst cps) t g w q) (hCO : ce_CO ev wm xop xnum yop ybs len st ywm xms yms W) (ho1 : xop (24 * a + p) = nI 11) (ho2 : yop (24 * a + p) = nI 11) (hb1 : xnum (24 * a + p) = b) (hb2 : ybs (24 * a + p) = b) (hc : b &&& 3 = nI c) (hc4 : c < 4) (hC : ce_cost 11 (bt wm (5 * a + c)) ≤ e) (hadd : h0 + 1 ≤ 6) {p' : Nat} (hn : ce_ny 11 b p (stk (6 * t + h0)) = nI p') (hp' : p' < L) : ∃ j u' v', (j = 1 ∨ j = 2) ∧ ce_XJ j (xlim, xps, xvn, xkc, ev, nI W, wm, rf, nI (t + 1), ea, er, lr, lu, lc, xop, xnum, len, st, vers, evl, xms, own, clr, amt, arg, eg, el, pos, hgt, stk, sst, sev, sw, swm, srf) u' ∧ (∀ P : SY → Prop, P v' → wpY_step P (ylim, ev, nI W, rf, nI (t + 1), yend, yans, yrest, lc, yres, yused, ycalls, yver, ykept, yop, ybs, len, st, cps, old, bef, ywm, wcp, ecp, mcp, rcp, evl, yms, ysf, ycl, yam, yar, ygv, yel, yat, ytp, stk)) ∧ ce_ST xlim xps xvn xkc lr lu ylim yres yused ycalls yver ykept xop xnum len vers yop ybs old bef r0 st0 t (q + e) W u' v' := by
  have hg4 : g ≤ 1000 := hfe.2.2.2.2.1
  have hC1 := (ce_cost_le 11 (bt wm (5 * a + c))).1
  exact ⟨1, _, _, Or.inl rfl, ce_XJ1 (by omega) (fun P hp => xs_exe ht ha h1 h3 h4 hp1 hpL ho1 (by decide) hb1 hc hc4 hfe.1 (by omega) hC hh1 hh6 hadd (fun q => absurd q (by decide)) (by rw [ce_nxy (by decide) (by decide)]; exact hn) hp' (by decide) (by decide) (by decide) (fun P hp => xx_11 ht pk_us (by omega) (by rw [ce_uu]; exact hp)) hp), fun P hp => ys_stk ht ha h2 h3 h4 hp2 hpL ho2 (by decide) hb2 hc hc4 hfe.2.1 (by omega) hCO.2.2.2.2.1 hC hh2 hh6 hadd (by decide) (by decide) hn hp' (by decide) (by decide) (fun P hp => yy_11 ht hh2 (by omega) hp) hp, Or.inl ⟨t, q + (e - ce_cost 11 (bt wm (5 * a + c))), W, ce_stay (h' := h0 + 1)  ht ha h1 h2 h3 h4 hp' h5 h6 h7 (by omega) hfe (by omega) heg hwW hS hCO, by omega, by omega⟩⟩
theorem st_12 {t a p L c h0 e g w q W : Nat} {b : Int32} (ht : t < 5) (ha : a < 6) (h1 : own t = nI a) (h2 : ysf t = nI a) (h3 : len a = nI L) (h4 : L ≤ 24) (hpL : p < L) (hp1 : pos t = nI p) (hp2 : yat t = nI p) (hh1 : hgt t = nI (h0 + 2)) (hh2 : ytp t = nI (h0 + 2)) (hh6 : h0 + 2 ≤ 6) (h5 : clr t = ycl t) (h6 : amt t = yam t) (h7 : arg t = yar t) (hfe : ce_fe r0 st0 eg ygv el yel sev ecp sw mcp swm wcp srf rcp sst cps t e g w) (heg : e ≤ g) (hwW : w ≤ W) (hS : ce_FS (ce_fp r0 st0 len own ysf pos yat hgt ytp clr ycl amt yam arg yar eg ygv el yel sev ecp sw mcp swm wcp srf rcp sst cps) t g w q) (hCO : ce_CO ev wm xop xnum yop ybs len st ywm xms yms W) (ho1 : xop (24 * a + p) = nI 12) (ho2 : yop (24 * a + p) = nI 12) (hb1 : xnum (24 * a + p) = b) (hb2 : ybs (24 * a + p) = b) (hc : b &&& 3 = nI c) (hc4 : c < 4) (hC : ce_cost 12 (bt wm (5 * a + c)) ≤ e) (hadd : h0 + 1 ≤ 6) {p' : Nat} (hn : ce_ny 12 b p (stk (6 * t + h0)) = nI p') (hp' : p' < L) : ∃ j u' v', (j = 1 ∨ j = 2) ∧ ce_XJ j (xlim, xps, xvn, xkc, ev, nI W, wm, rf, nI (t + 1), ea, er, lr, lu, lc, xop, xnum, len, st, vers, evl, xms, own, clr, amt, arg, eg, el, pos, hgt, stk, sst, sev, sw, swm, srf) u' ∧ (∀ P : SY → Prop, P v' → wpY_step P (ylim, ev, nI W, rf, nI (t + 1), yend, yans, yrest, lc, yres, yused, ycalls, yver, ykept, yop, ybs, len, st, cps, old, bef, ywm, wcp, ecp, mcp, rcp, evl, yms, ysf, ycl, yam, yar, ygv, yel, yat, ytp, stk)) ∧ ce_ST xlim xps xvn xkc lr lu ylim yres yused ycalls yver ykept xop xnum len vers yop ybs old bef r0 st0 t (q + e) W u' v' := by
  have hg4 : g ≤ 1000 := hfe.2.2.2.2.1
  have hC1 := (ce_cost_le 12 (bt wm (5 * a + c))).1
  exact ⟨1, _, _, Or.inl rfl, ce_XJ1 (by omega) (fun P hp => xs_exe ht ha h1 h3 h4 hp1 hpL ho1 (by decide) hb1 hc hc4 hfe.1 (by omega) hC hh1 hh6 hadd (fun q => absurd q (by decide)) (by rw [ce_nxy (by decide) (by decide)]; exact hn) hp' (by decide) (by decide) (by decide) (fun P hp => xx_12 ht pk_us (by omega) (by rw [ce_uu]; exact hp)) hp), fun P hp => ys_stk ht ha h2 h3 h4 hp2 hpL ho2 (by decide) hb2 hc hc4 hfe.2.1 (by omega) hCO.2.2.2.2.1 hC hh2 hh6 hadd (by decide) (by decide) hn hp' (by decide) (by decide) (fun P hp => yy_12 ht hh2 (by omega) hp) hp, Or.inl ⟨t, q + (e - ce_cost 12 (bt wm (5 * a + c))), W, ce_stay (h' := h0 + 1)  ht ha h1 h2 h3 h4 hp' h5 h6 h7 (by omega) hfe (by omega) heg hwW hS hCO, by omega, by omega⟩⟩
theorem st_13 {t a p L c h0 e g w q W : Nat} {b : Int32} (ht : t < 5) (ha : a < 6) (h1 : own t = nI a) (h2 : ysf t = nI a) (h3 : len a = nI L) (h4 : L ≤ 24) (hpL : p < L) (hp1 : pos t = nI p) (hp2 : yat t = nI p) (hh1 : hgt t = nI (h0 + 1)) (hh2 : ytp t = nI (h0 + 1)) (hh6 : h0 + 1 ≤ 6) (h5 : clr t = ycl t) (h6 : amt t = yam t) (h7 : arg t = yar t) (hfe : ce_fe r0 st0 eg ygv el yel sev ecp sw mcp swm wcp srf rcp sst cps t e g w) (heg : e ≤ g) (hwW : w ≤ W) (hS : ce_FS (ce_fp r0 st0 len own ysf pos yat hgt ytp clr ycl amt yam arg yar eg ygv el yel sev ecp sw mcp swm wcp srf rcp sst cps) t g w q) (hCO : ce_CO ev wm xop xnum yop ybs len st ywm xms yms W) (ho1 : xop (24 * a + p) = nI 13) (ho2 : yop (24 * a + p) = nI 13) (hb1 : xnum (24 * a + p) = b) (hb2 : ybs (24 * a + p) = b) (hc : b &&& 3 = nI c) (hc4 : c < 4) (hC : ce_cost 13 (bt wm (5 * a + c)) ≤ e) (hadd : h0 + 2 ≤ 6) {p' : Nat} (hn : ce_ny 13 b p (stk (6 * t + h0)) = nI p') (hp' : p' < L) : ∃ j u' v', (j = 1 ∨ j = 2) ∧ ce_XJ j (xlim, xps, xvn, xkc, ev, nI W, wm, rf, nI (t + 1), ea, er, lr, lu, lc, xop, xnum, len, st, vers, evl, xms, own, clr, amt, arg, eg, el, pos, hgt, stk, sst, sev, sw, swm, srf) u' ∧ (∀ P : SY → Prop, P v' → wpY_step P (ylim, ev, nI W, rf, nI (t + 1), yend, yans, yrest, lc, yres, yused, ycalls, yver, ykept, yop, ybs, len, st, cps, old, bef, ywm, wcp, ecp, mcp, rcp, evl, yms, ysf, ycl, yam, yar, ygv, yel, yat, ytp, stk)) ∧ ce_ST xlim xps xvn xkc lr lu ylim yres yused ycalls yver ykept xop xnum len vers yop ybs old bef r0 st0 t (q + e) W u' v' := by
  have hg4 : g ≤ 1000 := hfe.2.2.2.2.1
  have hC1 := (ce_cost_le 13 (bt wm (5 * a + c))).1
  exact ⟨1, _, _, Or.inl rfl, ce_XJ1 (by omega) (fun P hp => xs_exe ht ha h1 h3 h4 hp1 hpL ho1 (by decide) hb1 hc hc4 hfe.1 (by omega) hC hh1 hh6 hadd (fun q => absurd q (by decide)) (by rw [ce_nxy (by decide) (by decide)]; exact hn) hp' (by decide) (by decide) (by decide) (fun P hp => xx_13 ht pk_us (by omega) (by rw [ce_uu]; exact hp)) hp), fun P hp => ys_stk ht ha h2 h3 h4 hp2 hpL ho2 (by decide) hb2 hc hc4 hfe.2.1 (by omega) hCO.2.2.2.2.1 hC hh2 hh6 hadd (by decide) (by decide) hn hp' (by decide) (by decide) (fun P hp => yy_13 ht hh2 (by omega) hp) hp, Or.inl ⟨t, q + (e - ce_cost 13 (bt wm (5 * a + c))), W, ce_stay (h' := h0 + 2)  ht ha h1 h2 h3 h4 hp' h5 h6 h7 (by omega) hfe (by omega) heg hwW hS hCO, by omega, by omega⟩⟩
theorem st_15 {t a p L c h0 e g w q W : Nat} {b : Int32} (ht : t < 5) (ha : a < 6) (h1 : own t = nI a) (h2 : ysf t = nI a) (h3 : len a = nI L) (h4 : L ≤ 24) (hpL : p < L) (hp1 : pos t = nI p) (hp2 : yat t = nI p) (hh1 : hgt t = nI (h0 + 2)) (hh2 : ytp t = nI (h0 + 2)) (hh6 : h0 + 2 ≤ 6) (h5 : clr t = ycl t) (h6 : amt t = yam t) (h7 : arg t = yar t) (hfe : ce_fe r0 st0 eg ygv el yel sev ecp sw mcp swm wcp srf rcp sst cps t e g w) (heg : e ≤ g) (hwW : w ≤ W) (hS : ce_FS (ce_fp r0 st0 len own ysf pos yat hgt ytp clr ycl amt yam arg yar eg ygv el yel sev ecp sw mcp swm wcp srf rcp sst cps) t g w q) (hCO : ce_CO ev wm xop xnum yop ybs len st ywm xms yms W) (ho1 : xop (24 * a + p) = nI 15) (ho2 : yop (24 * a + p) = nI 15) (hb1 : xnum (24 * a + p) = b) (hb2 : ybs (24 * a + p) = b) (hc : b &&& 3 = nI c) (hc4 : c < 4) (hC : ce_cost 15 (bt wm (5 * a + c)) ≤ e) (hadd : h0 + 2 ≤ 6) {p' : Nat} (hn : ce_ny 15 b p (stk (6 * t + h0)) = nI p') (hp' : p' < L) : ∃ j u' v', (j = 1 ∨ j = 2) ∧ ce_XJ j (xlim, xps, xvn, xkc, ev, nI W, wm, rf, nI (t + 1), ea, er, lr, lu, lc, xop, xnum, len, st, vers, evl, xms, own, clr, amt, arg, eg, el, pos, hgt, stk, sst, sev, sw, swm, srf) u' ∧ (∀ P : SY → Prop, P v' → wpY_step P (ylim, ev, nI W, rf, nI (t + 1), yend, yans, yrest, lc, yres, yused, ycalls, yver, ykept, yop, ybs, len, st, cps, old, bef, ywm, wcp, ecp, mcp, rcp, evl, yms, ysf, ycl, yam, yar, ygv, yel, yat, ytp, stk)) ∧ ce_ST xlim xps xvn xkc lr lu ylim yres yused ycalls yver ykept xop xnum len vers yop ybs old bef r0 st0 t (q + e) W u' v' := by
  have hg4 : g ≤ 1000 := hfe.2.2.2.2.1
  have hC1 := (ce_cost_le 15 (bt wm (5 * a + c))).1
  exact ⟨1, _, _, Or.inl rfl, ce_XJ1 (by omega) (fun P hp => xs_exe ht ha h1 h3 h4 hp1 hpL ho1 (by decide) hb1 hc hc4 hfe.1 (by omega) hC hh1 hh6 hadd (fun q => absurd q (by decide)) (by rw [ce_nxy (by decide) (by decide)]; exact hn) hp' (by decide) (by decide) (by decide) (fun P hp => xx_15 ht pk_us (by omega) (by rw [ce_uu]; exact hp)) hp), fun P hp => ys_stk ht ha h2 h3 h4 hp2 hpL ho2 (by decide) hb2 hc hc4 hfe.2.1 (by omega) hCO.2.2.2.2.1 hC hh2 hh6 hadd (by decide) (by decide) hn hp' (by decide) (by decide) (fun P hp => yy_15 ht hh2 (by omega) hp) hp, Or.inl ⟨t, q + (e - ce_cost 15 (bt wm (5 * a + c))), W, ce_stay (h' := h0 + 2)  ht ha h1 h2 h3 h4 hp' h5 h6 h7 (by omega) hfe (by omega) heg hwW hS hCO, by omega, by omega⟩⟩
theorem st_14 {t a p L c h0 e g w q W : Nat} {b : Int32} (ht : t < 5) (ha : a < 6) (h1 : own t = nI a) (h2 : ysf t = nI a) (h3 : len a = nI L) (h4 : L ≤ 24) (hpL : p < L) (hp1 : pos t = nI p) (hp2 : yat t = nI p) (hh1 : hgt t = nI (h0 + 1)) (hh2 : ytp t = nI (h0 + 1)) (hh6 : h0 + 1 ≤ 6) (h5 : clr t = ycl t) (h6 : amt t = yam t) (h7 : arg t = yar t) (hfe : ce_fe r0 st0 eg ygv el yel sev ecp sw mcp swm wcp srf rcp sst cps t e g w) (heg : e ≤ g) (hwW : w ≤ W) (hS : ce_FS (ce_fp r0 st0 len own ysf pos yat hgt ytp clr ycl amt yam arg yar eg ygv el yel sev ecp sw mcp swm wcp srf rcp sst cps) t g w q) (hCO : ce_CO ev wm xop xnum yop ybs len st ywm xms yms W) (ho1 : xop (24 * a + p) = nI 14) (ho2 : yop (24 * a + p) = nI 14) (hb1 : xnum (24 * a + p) = b) (hb2 : ybs (24 * a + p) = b) (hc : b &&& 3 = nI c) (hc4 : c < 4) (hC : ce_cost 14 (bt wm (5 * a + c)) ≤ e) (hadd : h0 + 0 ≤ 6) {p' : Nat} (hn : ce_ny 14 b p (stk (6 * t + h0)) = nI p') (hp' : p' < L) : ∃ j u' v', (j = 1 ∨ j = 2) ∧ ce_XJ j (xlim, xps, xvn, xkc, ev, nI W, wm, rf, nI (t + 1), ea, er, lr, lu, lc, xop, xnum, len, st, vers, evl, xms, own, clr, amt, arg, eg, el, pos, hgt, stk, sst, sev, sw, swm, srf) u' ∧ (∀ P : SY → Prop, P v' → wpY_step P (ylim, ev, nI W, rf, nI (t + 1), yend, yans, yrest, lc, yres, yused, ycalls, yver, ykept, yop, ybs, len, st, cps, old, bef, ywm, wcp, ecp, mcp, rcp, evl, yms, ysf, ycl, yam, yar, ygv, yel, yat, ytp, stk)) ∧ ce_ST xlim xps xvn xkc lr lu ylim yres yused ycalls yver ykept xop xnum len vers yop ybs old bef r0 st0 t (q + e) W u' v' := by
  have hg4 : g ≤ 1000 := hfe.2.2.2.2.1
  have hC1 := (ce_cost_le 14 (bt wm (5 * a + c))).1
  exact ⟨1, _, _, Or.inl rfl, ce_XJ1 (by omega) (fun P hp => xs_exe ht ha h1 h3 h4 hp1 hpL ho1 (by decide) hb1 hc hc4 hfe.1 (by omega) hC hh1 hh6 hadd (fun q => absurd q (by decide)) (by rw [ce_nxy (by decide) (by decide)]; exact hn) hp' (by decide) (by decide) (by decide) (fun P hp => xx_14 hp) hp), fun P hp => ys_stk ht ha h2 h3 h4 hp2 hpL ho2 (by decide) hb2 hc hc4 hfe.2.1 (by omega) hCO.2.2.2.2.1 hC hh2 hh6 hadd (by decide) (by decide) hn hp' (by decide) (by decide) (fun P hp => yy_14 ht hh2 (by omega) hp) hp, Or.inl ⟨t, q + (e - ce_cost 14 (bt wm (5 * a + c))), W, ce_stay (h' := h0)  ht ha h1 h2 h3 h4 hp' h5 h6 h7 (by omega) hfe (by omega) heg hwW hS hCO, by omega, by omega⟩⟩
theorem st_17 {t a p L c h0 e g w q W : Nat} {b : Int32} (ht : t < 5) (ha : a < 6) (h1 : own t = nI a) (h2 : ysf t = nI a) (h3 : len a = nI L) (h4 : L ≤ 24) (hpL : p < L) (hp1 : pos t = nI p) (hp2 : yat t = nI p) (hh1 : hgt t = nI (h0 + 1)) (hh2 : ytp t = nI (h0 + 1)) (hh6 : h0 + 1 ≤ 6) (h5 : clr t = ycl t) (h6 : amt t = yam t) (h7 : arg t = yar t) (hfe : ce_fe r0 st0 eg ygv el yel sev ecp sw mcp swm wcp srf rcp sst cps t e g w) (heg : e ≤ g) (hwW : w ≤ W) (hS : ce_FS (ce_fp r0 st0 len own ysf pos yat hgt ytp clr ycl amt yam arg yar eg ygv el yel sev ecp sw mcp swm wcp srf rcp sst cps) t g w q) (hCO : ce_CO ev wm xop xnum yop ybs len st ywm xms yms W) (ho1 : xop (24 * a + p) = nI 17) (ho2 : yop (24 * a + p) = nI 17) (hb1 : xnum (24 * a + p) = b) (hb2 : ybs (24 * a + p) = b) (hc : b &&& 3 = nI c) (hc4 : c < 4) (hC : ce_cost 17 (bt wm (5 * a + c)) ≤ e) (hadd : h0 + 0 ≤ 6) {p' : Nat} (hn : ce_ny 17 b p (stk (6 * t + h0)) = nI p') (hp' : p' < L) : ∃ j u' v', (j = 1 ∨ j = 2) ∧ ce_XJ j (xlim, xps, xvn, xkc, ev, nI W, wm, rf, nI (t + 1), ea, er, lr, lu, lc, xop, xnum, len, st, vers, evl, xms, own, clr, amt, arg, eg, el, pos, hgt, stk, sst, sev, sw, swm, srf) u' ∧ (∀ P : SY → Prop, P v' → wpY_step P (ylim, ev, nI W, rf, nI (t + 1), yend, yans, yrest, lc, yres, yused, ycalls, yver, ykept, yop, ybs, len, st, cps, old, bef, ywm, wcp, ecp, mcp, rcp, evl, yms, ysf, ycl, yam, yar, ygv, yel, yat, ytp, stk)) ∧ ce_ST xlim xps xvn xkc lr lu ylim yres yused ycalls yver ykept xop xnum len vers yop ybs old bef r0 st0 t (q + e) W u' v' := by
  have hg4 : g ≤ 1000 := hfe.2.2.2.2.1
  have hC1 := (ce_cost_le 17 (bt wm (5 * a + c))).1
  exact ⟨1, _, _, Or.inl rfl, ce_XJ1 (by omega) (fun P hp => xs_exe ht ha h1 h3 h4 hp1 hpL ho1 (by decide) hb1 hc hc4 hfe.1 (by omega) hC hh1 hh6 hadd (fun _ => by omega) (by rw [ce_nxy (by decide) (by decide)]; exact hn) hp' (by decide) (by decide) (by decide) (fun P hp => xx_17 hp) hp), fun P hp => ys_stk ht ha h2 h3 h4 hp2 hpL ho2 (by decide) hb2 hc hc4 hfe.2.1 (by omega) hCO.2.2.2.2.1 hC hh2 hh6 hadd (by decide) (by decide) hn hp' (by decide) (by decide) (fun P hp => yy_17 ht hh2 (by omega) hp) hp, Or.inl ⟨t, q + (e - ce_cost 17 (bt wm (5 * a + c))), W, ce_stay (h' := h0)  ht ha h1 h2 h3 h4 hp' h5 h6 h7 (by omega) hfe (by omega) heg hwW hS hCO, by omega, by omega⟩⟩
theorem st_16 {t a p L c h0 e g w q W : Nat} {b : Int32} (ht : t < 5) (ha : a < 6) (h1 : own t = nI a) (h2 : ysf t = nI a) (h3 : len a = nI L) (h4 : L ≤ 24) (hpL : p < L) (hp1 : pos t = nI p) (hp2 : yat t = nI p) (hh1 : hgt t = nI (h0)) (hh2 : ytp t = nI (h0)) (hh6 : h0 ≤ 6) (h5 : clr t = ycl t) (h6 : amt t = yam t) (h7 : arg t = yar t) (hfe : ce_fe r0 st0 eg ygv el yel sev ecp sw mcp swm wcp srf rcp sst cps t e g w) (heg : e ≤ g) (hwW : w ≤ W) (hS : ce_FS (ce_fp r0 st0 len own ysf pos yat hgt ytp clr ycl amt yam arg yar eg ygv el yel sev ecp sw mcp swm wcp srf rcp sst cps) t g w q) (hCO : ce_CO ev wm xop xnum yop ybs len st ywm xms yms W) (ho1 : xop (24 * a + p) = nI 16) (ho2 : yop (24 * a + p) = nI 16) (hb1 : xnum (24 * a + p) = b) (hb2 : ybs (24 * a + p) = b) (hc : b &&& 3 = nI c) (hc4 : c < 4) (hC : ce_cost 16 (bt wm (5 * a + c)) ≤ e) (hadd : h0 + 0 ≤ 6) {p' : Nat} (hn : ce_ny 16 b p (stk (6 * t + h0)) = nI p') (hp' : p' < L) : ∃ j u' v', (j = 1 ∨ j = 2) ∧ ce_XJ j (xlim, xps, xvn, xkc, ev, nI W, wm, rf, nI (t + 1), ea, er, lr, lu, lc, xop, xnum, len, st, vers, evl, xms, own, clr, amt, arg, eg, el, pos, hgt, stk, sst, sev, sw, swm, srf) u' ∧ (∀ P : SY → Prop, P v' → wpY_step P (ylim, ev, nI W, rf, nI (t + 1), yend, yans, yrest, lc, yres, yused, ycalls, yver, ykept, yop, ybs, len, st, cps, old, bef, ywm, wcp, ecp, mcp, rcp, evl, yms, ysf, ycl, yam, yar, ygv, yel, yat, ytp, stk)) ∧ ce_ST xlim xps xvn xkc lr lu ylim yres yused ycalls yver ykept xop xnum len vers yop ybs old bef r0 st0 t (q + e) W u' v' := by
  have hg4 : g ≤ 1000 := hfe.2.2.2.2.1
  have hC1 := (ce_cost_le 16 (bt wm (5 * a + c))).1
  exact ⟨1, _, _, Or.inl rfl, ce_XJ1 (by omega) (fun P hp => xs_exe ht ha h1 h3 h4 hp1 hpL ho1 (by decide) hb1 hc hc4 hfe.1 (by omega) hC hh1 hh6 hadd (fun q => absurd q (by decide)) (by rw [ce_nxy (by decide) (by decide)]; exact hn) hp' (by decide) (by decide) (by decide) (fun P hp => xx_16 hp) hp), fun P hp => ys_stk ht ha h2 h3 h4 hp2 hpL ho2 (by decide) hb2 hc hc4 hfe.2.1 (by omega) hCO.2.2.2.2.1 hC hh2 hh6 hadd (by decide) (by decide) hn hp' (by decide) (by decide) (fun P hp => yy_16 (h0 := h0) ht (by rw [← hh2, ce_ui] at hp; exact hp)) hp, Or.inl ⟨t, q + (e - ce_cost 16 (bt wm (5 * a + c))), W, ce_stay (h' := h0)  ht ha h1 h2 h3 h4 hp' h5 h6 h7 (by omega) hfe (by omega) heg hwW hS hCO, by omega, by omega⟩⟩
end
end
section
section
variable {xlim xps xvn xkc ev wa wm rf dp ea er lr lu lc ylim yend yans yrest ybeg yres yused ycalls yver ykept : Int32} {xop xnum len st vers evl xms own clr amt arg eg el pos hgt stk sst sev sw swm srf yop ybs cps old bef ywm wcp ecp mcp rcp yms ysf ycl yam yar ygv yel yat ytp : Nat → Int32}
variable {r0 : Int32} {st0 : Nat → Int32}
theorem st_21n {t a p L c h0 e g w q W : Nat} {b : Int32} (ht : t < 5) (ha : a < 6) (h1 : own t = nI a) (h2 : ysf t = nI a) (h3 : len a = nI L) (h4 : L ≤ 24) (hpL : p < L) (hp1 : pos t = nI p) (hp2 : yat t = nI p) (hh1 : hgt t = nI (h0 + 1)) (hh2 : ytp t = nI (h0 + 1)) (hh6 : h0 + 1 ≤ 6) (h5 : clr t = ycl t) (h6 : amt t = yam t) (h7 : arg t = yar t) (hfe : ce_fe r0 st0 eg ygv el yel sev ecp sw mcp swm wcp srf rcp sst cps t e g w) (heg : e ≤ g) (hwW : w ≤ W) (hS : ce_FS (ce_fp r0 st0 len own ysf pos yat hgt ytp clr ycl amt yam arg yar eg ygv el yel sev ecp sw mcp swm wcp srf rcp sst cps) t g w q) (hCO : ce_CO ev wm xop xnum yop ybs len st ywm xms yms W) (ho1 : xop (24 * a + p) = nI 21) (ho2 : yop (24 * a + p) = nI 21) (hb1 : xnum (24 * a + p) = b) (hb2 : ybs (24 * a + p) = b) (hc : b &&& 3 = nI c) (hc4 : c < 4) (hC : ce_cost 21 (bt wm (5 * a + c)) ≤ e) (hadd : h0 + 0 ≤ 6) {p' : Nat} (hn : ce_ny 21 b p (stk (6 * t + h0)) = nI p') (hp' : p' < L) {E : Nat} (hev : ev = nI E) (hE2 : E = 20) : ∃ j u' v', (j = 1 ∨ j = 2) ∧ ce_XJ j (xlim, xps, xvn, xkc, ev, nI W, wm, rf, nI (t + 1), ea, er, lr, lu, lc, xop, xnum, len, st, vers, evl, xms, own, clr, amt, arg, eg, el, pos, hgt, stk, sst, sev, sw, swm, srf) u' ∧ (∀ P : SY → Prop, P v' → wpY_step P (ylim, ev, nI W, rf, nI (t + 1), yend, yans, yrest, lc, yres, yused, ycalls, yver, ykept, yop, ybs, len, st, cps, old, bef, ywm, wcp, ecp, mcp, rcp, evl, yms, ysf, ycl, yam, yar, ygv, yel, yat, ytp, stk)) ∧ ce_ST xlim xps xvn xkc lr lu ylim yres yused ycalls yver ykept xop xnum len vers yop ybs old bef r0 st0 t (q + e) W u' v' := by
  have hg4 : g ≤ 1000 := hfe.2.2.2.2.1
  have hC1 := (ce_cost_le 21 (bt wm (5 * a + c))).1
  subst hev
  exact ⟨1, _, _, Or.inl rfl, ce_XJ1 (by omega) (fun P hp => xs_exe ht ha h1 h3 h4 hp1 hpL ho1 (by decide) hb1 hc hc4 hfe.1 (by omega) hC hh1 hh6 hadd (fun q => absurd q (by decide)) (by rw [ce_nxy (by decide) (by decide)]; exact hn) hp' (by decide) (by decide) (by decide) (fun P hp => xx_21n ht (by omega) hE2 hp) hp), fun P hp => ys_oth ht ha h2 h3 h4 hp2 hpL ho2 (by decide) hb2 hc hc4 hfe.2.1 (by omega) hCO.2.2.2.2.1 hC hh2 hh6 hadd (by decide) (by decide) hn hp' (by decide) (fun P hp => yy_21n ht hh2 (by omega) hE2 hp) hp, Or.inl ⟨t, q + (e - ce_cost 21 (bt wm (5 * a + c))), W, ce_stay (h' := h0)  ht ha h1 h2 h3 h4 hp' h5 h6 h7 (by omega) hfe (by omega) heg hwW hS hCO, by omega, by omega⟩⟩
theorem st_21y {t a p L c h0 e g w q W : Nat} {b : Int32} (ht : t < 5) (ha : a < 6) (h1 : own t = nI a) (h2 : ysf t = nI a) (h3 : len a = nI L) (h4 : L ≤ 24) (hpL : p < L) (hp1 : pos t = nI p) (hp2 : yat t = nI p) (hh1 : hgt t = nI (h0 + 1)) (hh2 : ytp t = nI (h0 + 1)) (hh6 : h0 + 1 ≤ 6) (h5 : clr t = ycl t) (h6 : amt t = yam t) (h7 : arg t = yar t) (hfe : ce_fe r0 st0 eg ygv el yel sev ecp sw mcp swm wcp srf rcp sst cps t e g w) (heg : e ≤ g) (hwW : w ≤ W) (hS : ce_FS (ce_fp r0 st0 len own ysf pos yat hgt ytp clr ycl amt yam arg yar eg ygv el yel sev ecp sw mcp swm wcp srf rcp sst cps) t g w q) (hCO : ce_CO ev wm xop xnum yop ybs len st ywm xms yms W) (ho1 : xop (24 * a + p) = nI 21) (ho2 : yop (24 * a + p) = nI 21) (hb1 : xnum (24 * a + p) = b) (hb2 : ybs (24 * a + p) = b) (hc : b &&& 3 = nI c) (hc4 : c < 4) (hC : ce_cost 21 (bt wm (5 * a + c)) ≤ e) (hadd : h0 + 0 ≤ 6) {p' : Nat} (hn : ce_ny 21 b p (stk (6 * t + h0)) = nI p') (hp' : p' < L) {E : Nat} (hev : ev = nI E) (hE2 : E < 20) : ∃ j u' v', (j = 1 ∨ j = 2) ∧ ce_XJ j (xlim, xps, xvn, xkc, ev, nI W, wm, rf, nI (t + 1), ea, er, lr, lu, lc, xop, xnum, len, st, vers, evl, xms, own, clr, amt, arg, eg, el, pos, hgt, stk, sst, sev, sw, swm, srf) u' ∧ (∀ P : SY → Prop, P v' → wpY_step P (ylim, ev, nI W, rf, nI (t + 1), yend, yans, yrest, lc, yres, yused, ycalls, yver, ykept, yop, ybs, len, st, cps, old, bef, ywm, wcp, ecp, mcp, rcp, evl, yms, ysf, ycl, yam, yar, ygv, yel, yat, ytp, stk)) ∧ ce_ST xlim xps xvn xkc lr lu ylim yres yused ycalls yver ykept xop xnum len vers yop ybs old bef r0 st0 t (q + e) W u' v' := by
  have hg4 : g ≤ 1000 := hfe.2.2.2.2.1
  have hC1 := (ce_cost_le 21 (bt wm (5 * a + c))).1
  subst hev
  exact ⟨1, _, _, Or.inl rfl, ce_XJ1 (by omega) (fun P hp => xs_exe ht ha h1 h3 h4 hp1 hpL ho1 (by decide) hb1 hc hc4 hfe.1 (by omega) hC hh1 hh6 hadd (fun q => absurd q (by decide)) (by rw [ce_nxy (by decide) (by decide)]; exact hn) hp' (by decide) (by decide) (by decide) (fun P hp => xx_21y ht (by omega) hE2 (by rw [h1]; exact hp)) hp), fun P hp => ys_oth ht ha h2 h3 h4 hp2 hpL ho2 (by decide) hb2 hc hc4 hfe.2.1 (by omega) hCO.2.2.2.2.1 hC hh2 hh6 hadd (by decide) (by decide) hn hp' (by decide) (fun P hp => yy_21y ht hh2 (by omega) hE2 (by rw [h2]; exact hp)) hp, Or.inl ⟨t, q + (e - ce_cost 21 (bt wm (5 * a + c))), W, ce_stay (h' := h0)  ht ha h1 h2 h3 h4 hp' h5 h6 h7 (by omega) hfe (by omega) heg hwW hS ⟨⟨E + 1, by omega, rfl⟩, hCO.2⟩, by omega, by omega⟩⟩
theorem st_23n {t a p L c h0 e g w q W : Nat} {b : Int32} (ht : t < 5) (ha : a < 6) (h1 : own t = nI a) (h2 : ysf t = nI a) (h3 : len a = nI L) (h4 : L ≤ 24) (hpL : p < L) (hp1 : pos t = nI p) (hp2 : yat t = nI p) (hh1 : hgt t = nI (h0 + 3)) (hh2 : ytp t = nI (h0 + 3)) (hh6 : h0 + 3 ≤ 6) (h5 : clr t = ycl t) (h6 : amt t = yam t) (h7 : arg t = yar t) (hfe : ce_fe r0 st0 eg ygv el yel sev ecp sw mcp swm wcp srf rcp sst cps t e g w) (heg : e ≤ g) (hwW : w ≤ W) (hS : ce_FS (ce_fp r0 st0 len own ysf pos yat hgt ytp clr ycl amt yam arg yar eg ygv el yel sev ecp sw mcp swm wcp srf rcp sst cps) t g w q) (hCO : ce_CO ev wm xop xnum yop ybs len st ywm xms yms W) (ho1 : xop (24 * a + p) = nI 23) (ho2 : yop (24 * a + p) = nI 23) (hb1 : xnum (24 * a + p) = b) (hb2 : ybs (24 * a + p) = b) (hc : b &&& 3 = nI c) (hc4 : c < 4) (hC : ce_cost 23 (bt wm (5 * a + c)) ≤ e) (hadd : h0 + 0 ≤ 6) {p' : Nat} (hn : ce_ny 23 b p (stk (6 * t + h0)) = nI p') (hp' : p' < L) (hno : W = 6 ∨ stk (6 * t + h0) < 0 ∨ nI 6 ≤ stk (6 * t + h0)) : ∃ j u' v', (j = 1 ∨ j = 2) ∧ ce_XJ j (xlim, xps, xvn, xkc, ev, nI W, wm, rf, nI (t + 1), ea, er, lr, lu, lc, xop, xnum, len, st, vers, evl, xms, own, clr, amt, arg, eg, el, pos, hgt, stk, sst, sev, sw, swm, srf) u' ∧ (∀ P : SY → Prop, P v' → wpY_step P (ylim, ev, nI W, rf, nI (t + 1), yend, yans, yrest, lc, yres, yused, ycalls, yver, ykept, yop, ybs, len, st, cps, old, bef, ywm, wcp, ecp, mcp, rcp, evl, yms, ysf, ycl, yam, yar, ygv, yel, yat, ytp, stk)) ∧ ce_ST xlim xps xvn xkc lr lu ylim yres yused ycalls yver ykept xop xnum len vers yop ybs old bef r0 st0 t (q + e) W u' v' := by
  have hg4 : g ≤ 1000 := hfe.2.2.2.2.1
  have hC1 := (ce_cost_le 23 (bt wm (5 * a + c))).1
  exact ⟨1, _, _, Or.inl rfl, ce_XJ1 (by omega) (fun P hp => xs_exe ht ha h1 h3 h4 hp1 hpL ho1 (by decide) hb1 hc hc4 hfe.1 (by omega) hC hh1 hh6 hadd (fun q => absurd q (by decide)) (by rw [ce_nxy (by decide) (by decide)]; exact hn) hp' (by decide) (by decide) (by decide) (fun P hp => xx_23n ht (by omega) hCO.2.1 hno hp) hp), fun P hp => ys_oth ht ha h2 h3 h4 hp2 hpL ho2 (by decide) hb2 hc hc4 hfe.2.1 (by omega) hCO.2.2.2.2.1 hC hh2 hh6 hadd (by decide) (by decide) hn hp' (by decide) (fun P hp => yy_23n ht hh2 (by omega) hCO.2.1 hno hp) hp, Or.inl ⟨t, q + (e - ce_cost 23 (bt wm (5 * a + c))), W, ce_stay (h' := h0)  ht ha h1 h2 h3 h4 hp' h5 h6 h7 (by omega) hfe (by omega) heg hwW hS hCO, by omega, by omega⟩⟩
theorem st_23y {t a p L c h0 e g w q W : Nat} {b : Int32} (ht : t < 5) (ha : a < 6) (h1 : own t = nI a) (h2 : ysf t = nI a) (h3 : len a = nI L) (h4 : L ≤ 24) (hpL : p < L) (hp1 : pos t = nI p) (hp2 : yat t = nI p) (hh1 : hgt t = nI (h0 + 3)) (hh2 : ytp t = nI (h0 + 3)) (hh6 : h0 + 3 ≤ 6) (h5 : clr t = ycl t) (h6 : amt t = yam t) (h7 : arg t = yar t) (hfe : ce_fe r0 st0 eg ygv el yel sev ecp sw mcp swm wcp srf rcp sst cps t e g w) (heg : e ≤ g) (hwW : w ≤ W) (hS : ce_FS (ce_fp r0 st0 len own ysf pos yat hgt ytp clr ycl amt yam arg yar eg ygv el yel sev ecp sw mcp swm wcp srf rcp sst cps) t g w q) (hCO : ce_CO ev wm xop xnum yop ybs len st ywm xms yms W) (ho1 : xop (24 * a + p) = nI 23) (ho2 : yop (24 * a + p) = nI 23) (hb1 : xnum (24 * a + p) = b) (hb2 : ybs (24 * a + p) = b) (hc : b &&& 3 = nI c) (hc4 : c < 4) (hC : ce_cost 23 (bt wm (5 * a + c)) ≤ e) (hadd : h0 + 0 ≤ 6) {p' : Nat} (hn : ce_ny 23 b p (stk (6 * t + h0)) = nI p') (hp' : p' < L) {j : Nat} (hW6 : W < 6) (hj : j < 6) (hs : stk (6 * t + h0) = nI j) : ∃ j u' v', (j = 1 ∨ j = 2) ∧ ce_XJ j (xlim, xps, xvn, xkc, ev, nI W, wm, rf, nI (t + 1), ea, er, lr, lu, lc, xop, xnum, len, st, vers, evl, xms, own, clr, amt, arg, eg, el, pos, hgt, stk, sst, sev, sw, swm, srf) u' ∧ (∀ P : SY → Prop, P v' → wpY_step P (ylim, ev, nI W, rf, nI (t + 1), yend, yans, yrest, lc, yres, yused, ycalls, yver, ykept, yop, ybs, len, st, cps, old, bef, ywm, wcp, ecp, mcp, rcp, evl, yms, ysf, ycl, yam, yar, ygv, yel, yat, ytp, stk)) ∧ ce_ST xlim xps xvn xkc lr lu ylim yres yused ycalls yver ykept xop xnum len vers yop ybs old bef r0 st0 t (q + e) W u' v' := by
  have hg4 : g ≤ 1000 := hfe.2.2.2.2.1
  have hC1 := (ce_cost_le 23 (bt wm (5 * a + c))).1
  exact ⟨1, _, _, Or.inl rfl, ce_XJ1 (by omega) (fun P hp => xs_exe ht ha h1 h3 h4 hp1 hpL ho1 (by decide) hb1 hc hc4 hfe.1 (by omega) hC hh1 hh6 hadd (fun q => absurd q (by decide)) (by rw [ce_nxy (by decide) (by decide)]; exact hn) hp' (by decide) (by decide) (by decide) (fun P hp => xx_23y ht (by omega) hW6 hj hs (by rw [h1]; exact hp)) hp), fun P hp => ys_oth ht ha h2 h3 h4 hp2 hpL ho2 (by decide) hb2 hc hc4 hfe.2.1 (by omega) hCO.2.2.2.2.1 hC hh2 hh6 hadd (by decide) (by decide) hn hp' (by decide) (fun P hp => yy_23y ht hh2 (by omega) hW6 hj hs (by rw [h2]; exact hp)) hp, Or.inl ⟨t, q + (e - ce_cost 23 (bt wm (5 * a + c))), W + 1, ce_stay (h' := h0)  ht ha h1 h2 h3 h4 hp' h5 h6 h7 (by omega) hfe (by omega) heg (by omega) hS ⟨hCO.1, by omega, hCO.2.2.1, hCO.2.2.2.1, hCO.2.2.2.2.1, ce_MSsend hCO.2.2.2.2.2 hj ha⟩, by omega, by omega⟩⟩
/-- a call of an account with no program: the component has written a frame above, the reference hasn't -/
theorem ce_stayE {t a L p' h0 e e1 g w q W : Nat} (ht : t < 5) (ha : a < 6) (h1 : own t = nI a) (h2 : ysf t = nI a) (h3 : len a = nI L) (h4 : L ≤ 24) (hp' : p' < L) (h5 : clr t = ycl t) (h6 : amt t = yam t) (h7 : arg t = yar t) (hh' : h0 ≤ 4) (hfe : ce_fe r0 st0 eg ygv el yel sev ecp sw mcp swm wcp srf rcp sst cps t e g w) (he' : e1 ≤ e) (heg : e ≤ g) (hwW : w ≤ W) (hS : ce_FS (ce_fp r0 st0 len own ysf pos yat hgt ytp clr ycl amt yam arg yar eg ygv el yel sev ecp sw mcp swm wcp srf rcp sst cps) t g w q) (hCO : ce_CO ev wm xop xnum yop ybs len st ywm xms yms W) {a' n : Nat} {am ar : Int32} {st' : Nat → Int32} (hCO' : ce_CO ev wm xop xnum yop ybs len st' ywm xms yms W) : ce_R xlim xps xvn xkc lr lu ylim yres yused ycalls yver ykept xop xnum len vers yop ybs old bef r0 st0 t (q + e1) W (xlim, xps, xvn, xkc, ev, nI W, wm, rf, nI (t + 1), 0, 0, lr, lu, lc + 1, xop, xnum, len, st', vers, evl, xms, upd own (t + 1) (nI a'), upd clr (t + 1) (nI a), upd amt (t + 1) am, upd arg (t + 1) ar, upd eg (t + 1) (nI n), upd (upd (upd el t (nI e1)) (t + 1) (nI n)) t (nI e1), upd (upd pos t (nI p')) (t + 1) 0, upd (upd (upd hgt t (nI h0)) (t + 1) 0) t (nI (h0 + 2)), stk, ce_cp sst (30 * (t + 1)) 30 st, upd sev (t + 1) ev, upd sw (t + 1) (nI W), upd swm (t + 1) wm, upd srf (t + 1) rf) (ylim, ev, nI W, rf, nI (t + 1), yend, yans, yrest, lc + 1, yres, yused, ycalls, yver, ykept, yop, ybs, len, st', cps, old, bef, ywm, wcp, ecp, mcp, rcp, evl, yms, ysf, ycl, yam, yar, ygv, upd yel t (nI e1), upd yat t (nI p'), upd ytp t (nI (h0 + 2)), stk) := by
  have hF : ce_fp r0 st0 len own ysf (upd pos t (nI p')) (upd yat t (nI p')) (upd hgt t (nI h0)) (upd ytp t (nI h0)) clr ycl amt yam arg yar eg ygv el yel sev ecp sw mcp swm wcp srf rcp sst cps t h0 e g w := ⟨⟨a, p', L, ha, h1, h2, h3, h4, hp', pk_us, pk_us, pk_us, pk_us, h5, h6, h7⟩, hfe⟩
  have hF2 : ce_fp r0 st0 len (upd own (t + 1) (nI a')) ysf (upd pos t (nI p')) (upd yat t (nI p')) (upd hgt t (nI h0)) (upd ytp t (nI h0)) (upd clr (t + 1) (nI a)) ycl (upd amt (t + 1) am) yam (upd arg (t + 1) ar) yar (upd eg (t + 1) (nI n)) ygv el yel (upd sev (t + 1) ev) ecp (upd sw (t + 1) (nI W)) mcp (upd swm (t + 1) wm) wcp (upd srf (t + 1) rf) rcp (ce_cp sst (30 * (t + 1)) 30 st) cps t h0 e g w := ce_fpc hF
  obtain ⟨⟨z, p2, L2, b1, b2, b3, b4, b5, b6, b7, b8, b9, b10, b11, b12, b13⟩, c1, c2, cr⟩ := hF2
  refine ⟨_, _, _, _, _, _, _, _, _, _, _, _, _, _, _, _, _, _, _, _, _, _, _, rfl, _, _, _, _, _, _, _, _, _, _, _, _, _, _, _, _, _, _, rfl, h0 + 2, e1, g, w, q, rfl, ht, by omega, by omega, hwW, ?_, ?_, hCO'⟩
  · exact ⟨⟨z, p2, L2, b1, b2, b3, b4, b5, b6, (pk_un (by omega)).trans b7, b8, pk_us, pk_us, b11, b12, b13⟩, pk_us, pk_us, cr⟩
  · exact ce_FSc (fun j hj h e g w H => ce_fpc H (e_el := by rw [pk_un (by omega), pk_un (by omega), pk_un (by omega)]) (e_pos := by rw [pk_un (by omega), pk_un (by omega)]) (e_hgt := by rw [pk_un (by omega), pk_un (by omega), pk_un (by omega)])) hS
/-- a call of an account with a program -/
theorem ce_opnR {t a L p' h0 e e1 g w q W : Nat} (ht : t < 5) (ha : a < 6) (h1 : own t = nI a) (h2 : ysf t = nI a) (h3 : len a = nI L) (h4 : L ≤ 24) (hp' : p' < L) (h5 : clr t = ycl t) (h6 : amt t = yam t) (h7 : arg t = yar t) (hh' : h0 ≤ 4) (hfe : ce_fe r0 st0 eg ygv el yel sev ecp sw mcp swm wcp srf rcp sst cps t e g w) (he' : e1 ≤ e) (heg : e ≤ g) (hwW : w ≤ W) (hS : ce_FS (ce_fp r0 st0 len own ysf pos yat hgt ytp clr ycl amt yam arg yar eg ygv el yel sev ecp sw mcp swm wcp srf rcp sst cps) t g w q) (hCO : ce_CO ev wm xop xnum yop ybs len st ywm xms yms W) (ht5 : t + 1 < 5) {a' n L' : Nat} {am ar : Int32} {st' : Nat → Int32} (ha' : a' < 6) (hL' : len a' = nI L') (hl' : L' ≤ 24) (h0L : 0 < L') (hn : n ≤ e1) (hg4 : g ≤ 1000) (hCO' : ce_CO ev wm xop xnum yop ybs len st' ywm xms yms W) : ce_R xlim xps xvn xkc lr lu ylim yres yused ycalls yver ykept xop xnum len vers yop ybs old bef r0 st0 (t + 1) (q + (e1 - n) + n) W (xlim, xps, xvn, xkc, ev, nI W, wm, rf, nI (t + 1 + 1), ea, er, lr, lu, lc + 1, xop, xnum, len, st', vers, evl, xms, upd own (t + 1) (nI a'), upd clr (t + 1) (nI a), upd amt (t + 1) am, upd arg (t + 1) ar, upd eg (t + 1) (nI n), upd (upd el t (nI e1)) (t + 1) (nI n), upd (upd pos t (nI p')) (t + 1) 0, upd (upd hgt t (nI h0)) (t + 1) 0, stk, ce_cp sst (30 * (t + 1)) 30 st, upd sev (t + 1) ev, upd sw (t + 1) (nI W), upd swm (t + 1) wm, upd srf (t + 1) rf) (ylim, ev, nI W, rf, nI (t + 1 + 1), yend, yans, yrest, lc + 1, yres, yused, ycalls, yver, ykept, yop, ybs, len, st', ce_cp cps (30 * (t + 1)) 30 st, old, bef, ywm, ce_cp wcp (24 * (t + 1)) 24 ywm, upd ecp (t + 1) ev, upd mcp (t + 1) (nI W), upd rcp (t + 1) rf, evl, yms, upd ysf (t + 1) (nI a'), upd ycl (t + 1) (nI a), upd yam (t + 1) am, upd yar (t + 1) ar, upd ygv (t + 1) (nI n), upd (upd yel t (nI e1)) (t + 1) (nI n), upd (upd yat t (nI p')) (t + 1) 0, upd (upd ytp t (nI h0)) (t + 1) 0, stk) := by
  have hF : ce_fp r0 st0 len own ysf (upd pos t (nI p')) (upd yat t (nI p')) (upd hgt t (nI h0)) (upd ytp t (nI h0)) clr ycl amt yam arg yar eg ygv (upd el t (nI e1)) (upd yel t (nI e1)) sev ecp sw mcp swm wcp srf rcp sst cps t h0 e1 g w := ⟨⟨a, p', L, ha, h1, h2, h3, h4, hp', pk_us, pk_us, pk_us, pk_us, h5, h6, h7⟩, pk_us, pk_us, hfe.2.2⟩
  refine ⟨_, _, _, _, _, _, _, _, _, _, _, _, _, _, _, _, _, _, _, _, _, _, _, rfl, _, _, _, _, _, _, _, _, _, _, _, _, _, _, _, _, _, _, rfl, 0, n, n, W, q + (e1 - n), rfl, ht5, by omega, by omega, by omega, ce_new ha' hL' hl' h0L (by omega) hCO (fun z => absurd z (by omega)), ?_, hCO'⟩
  refine ⟨h0, e1, g, w, q, ce_fpc hF, hh', hn, by omega, hwW, ?_, rfl⟩
  exact ce_FSc (fun j hj h e g w H => ce_fpc H (e_el := by rw [pk_un (by omega), pk_un (by omega)]) (e_yel := by rw [pk_un (by omega), pk_un (by omega)]) (e_pos := by rw [pk_un (by omega), pk_un (by omega)]) (e_yat := by rw [pk_un (by omega), pk_un (by omega)]) (e_hgt := by rw [pk_un (by omega), pk_un (by omega)]) (e_ytp := by rw [pk_un (by omega), pk_un (by omega)])) hS
theorem st_18n {t a p L c h0 e g w q W : Nat} {b : Int32} (ht : t < 5) (ha : a < 6) (h1 : own t = nI a) (h2 : ysf t = nI a) (h3 : len a = nI L) (h4 : L ≤ 24) (hpL : p < L) (hp1 : pos t = nI p) (hp2 : yat t = nI p) (hh1 : hgt t = nI (h0 + 3)) (hh2 : ytp t = nI (h0 + 3)) (hh6 : h0 + 3 ≤ 6) (h5 : clr t = ycl t) (h6 : amt t = yam t) (h7 : arg t = yar t) (hfe : ce_fe r0 st0 eg ygv el yel sev ecp sw mcp swm wcp srf rcp sst cps t e g w) (heg : e ≤ g) (hwW : w ≤ W) (hS : ce_FS (ce_fp r0 st0 len own ysf pos yat hgt ytp clr ycl amt yam arg yar eg ygv el yel sev ecp sw mcp swm wcp srf rcp sst cps) t g w q) (hCO : ce_CO ev wm xop xnum yop ybs len st ywm xms yms W) (ho1 : xop (24 * a + p) = nI 18) (ho2 : yop (24 * a + p) = nI 18) (hb1 : xnum (24 * a + p) = b) (hb2 : ybs (24 * a + p) = b) (hc : b &&& 3 = nI c) (hc4 : c < 4) (hC : ce_cost 18 (bt wm (5 * a + c)) ≤ e) {p' : Nat} (hn : ce_ny 18 b p (stk (6 * t + h0)) = nI p') (hp' : p' < L) (hno : stk (6 * t + h0) < 0 ∨ nI 6 ≤ stk (6 * t + h0)) : ∃ j u' v', (j = 1 ∨ j = 2) ∧ ce_XJ j (xlim, xps, xvn, xkc, ev, nI W, wm, rf, nI (t + 1), ea, er, lr, lu, lc, xop, xnum, len, st, vers, evl, xms, own, clr, amt, arg, eg, el, pos, hgt, stk, sst, sev, sw, swm, srf) u' ∧ (∀ P : SY → Prop, P v' → wpY_step P (ylim, ev, nI W, rf, nI (t + 1), yend, yans, yrest, lc, yres, yused, ycalls, yver, ykept, yop, ybs, len, st, cps, old, bef, ywm, wcp, ecp, mcp, rcp, evl, yms, ysf, ycl, yam, yar, ygv, yel, yat, ytp, stk)) ∧ ce_ST xlim xps xvn xkc lr lu ylim yres yused ycalls yver ykept xop xnum len vers yop ybs old bef r0 st0 t (q + e) W u' v' := by
  have hg4 : g ≤ 1000 := hfe.2.2.2.2.1
  have hC1 : ce_cost 18 (bt wm (5 * a + c)) = 8 := rfl
  exact ⟨1, _, _, Or.inl rfl, ce_XJ1 (by omega) (fun P hp => xs_cll ht ha h1 h3 h4 hp1 hpL ho1 (by decide) hb1 hc hc4 hfe.1 (by omega) hC hh1 hh6 (show h0 + 2 ≤ 6 by omega) (fun q => absurd q (by decide)) (by rw [ce_nxy (by decide) (by decide)]; exact hn) hp' rfl (fun P hp => xc_no ht pk_us (by omega) hno (by rw [ce_uu]; exact hp)) hp), fun P hp => ys_oth ht ha h2 h3 h4 hp2 hpL ho2 (by decide) hb2 hc hc4 hfe.2.1 (by omega) hCO.2.2.2.2.1 hC hh2 hh6 (show h0 + 2 ≤ 6 by omega) (by decide) (by decide) hn hp' (by decide) (fun P hp => yc_no ht hh2 (by omega) hno hp) hp, Or.inl ⟨t, q + (e - ce_cost 18 (bt wm (5 * a + c))), W, ce_stay (h' := h0 + 2) ht ha h1 h2 h3 h4 hp' h5 h6 h7 (by omega) hfe (by omega) heg hwW hS hCO, by omega, by omega⟩⟩
theorem st_18d {t a p L c h0 e g w q W : Nat} {b : Int32} (ht : t < 5) (ha : a < 6) (h1 : own t = nI a) (h2 : ysf t = nI a) (h3 : len a = nI L) (h4 : L ≤ 24) (hpL : p < L) (hp1 : pos t = nI p) (hp2 : yat t = nI p) (hh1 : hgt t = nI (h0 + 3)) (hh2 : ytp t = nI (h0 + 3)) (hh6 : h0 + 3 ≤ 6) (h5 : clr t = ycl t) (h6 : amt t = yam t) (h7 : arg t = yar t) (hfe : ce_fe r0 st0 eg ygv el yel sev ecp sw mcp swm wcp srf rcp sst cps t e g w) (heg : e ≤ g) (hwW : w ≤ W) (hS : ce_FS (ce_fp r0 st0 len own ysf pos yat hgt ytp clr ycl amt yam arg yar eg ygv el yel sev ecp sw mcp swm wcp srf rcp sst cps) t g w q) (hCO : ce_CO ev wm xop xnum yop ybs len st ywm xms yms W) (ho1 : xop (24 * a + p) = nI 18) (ho2 : yop (24 * a + p) = nI 18) (hb1 : xnum (24 * a + p) = b) (hb2 : ybs (24 * a + p) = b) (hc : b &&& 3 = nI c) (hc4 : c < 4) (hC : ce_cost 18 (bt wm (5 * a + c)) ≤ e) {p' : Nat} (hn : ce_ny 18 b p (stk (6 * t + h0)) = nI p') (hp' : p' < L) {a' : Nat} (ha' : a' < 6) (hs : stk (6 * t + h0) = nI a') (hD : ce_DN st (t + 1) (nI a) a' (stk (6 * t + h0 + 1))) : ∃ j u' v', (j = 1 ∨ j = 2) ∧ ce_XJ j (xlim, xps, xvn, xkc, ev, nI W, wm, rf, nI (t + 1), ea, er, lr, lu, lc, xop, xnum, len, st, vers, evl, xms, own, clr, amt, arg, eg, el, pos, hgt, stk, sst, sev, sw, swm, srf) u' ∧ (∀ P : SY → Prop, P v' → wpY_step P (ylim, ev, nI W, rf, nI (t + 1), yend, yans, yrest, lc, yres, yused, ycalls, yver, ykept, yop, ybs, len, st, cps, old, bef, ywm, wcp, ecp, mcp, rcp, evl, yms, ysf, ycl, yam, yar, ygv, yel, yat, ytp, stk)) ∧ ce_ST xlim xps xvn xkc lr lu ylim yres yused ycalls yver ykept xop xnum len vers yop ybs old bef r0 st0 t (q + e) W u' v' := by
  have hg4 : g ≤ 1000 := hfe.2.2.2.2.1
  have hC1 : ce_cost 18 (bt wm (5 * a + c)) = 8 := rfl
  exact ⟨1, _, _, Or.inl rfl, ce_XJ1 (by omega) (fun P hp => xs_cll ht ha h1 h3 h4 hp1 hpL ho1 (by decide) hb1 hc hc4 hfe.1 (by omega) hC hh1 hh6 (show h0 + 2 ≤ 6 by omega) (fun q => absurd q (by decide)) (by rw [ce_nxy (by decide) (by decide)]; exact hn) hp' rfl (fun P hp => xc_den ht pk_us (by omega) h1 ha hs ha' rfl hD (by rw [ce_uu]; exact hp)) hp), fun P hp => ys_oth ht ha h2 h3 h4 hp2 hpL ho2 (by decide) hb2 hc hc4 hfe.2.1 (by omega) hCO.2.2.2.2.1 hC hh2 hh6 (show h0 + 2 ≤ 6 by omega) (by decide) (by decide) hn hp' (by decide) (fun P hp => yc_pre ht hh2 (by omega) hs ha' rfl rfl pk_us (by omega) (yc_den ht h2 ha ha' (by omega) pk_us hCO.2.2.2.1 hD (by rw [ce_uu]; exact hp))) hp, Or.inl ⟨t, q + (e - ce_cost 18 (bt wm (5 * a + c))), W, ce_stay (h' := h0 + 2) ht ha h1 h2 h3 h4 hp' h5 h6 h7 (by omega) hfe (by omega) heg hwW hS hCO, by omega, by omega⟩⟩
theorem st_18e {t a p L c h0 e g w q W : Nat} {b : Int32} (ht : t < 5) (ha : a < 6) (h1 : own t = nI a) (h2 : ysf t = nI a) (h3 : len a = nI L) (h4 : L ≤ 24) (hpL : p < L) (hp1 : pos t = nI p) (hp2 : yat t = nI p) (hh1 : hgt t = nI (h0 + 3)) (hh2 : ytp t = nI (h0 + 3)) (hh6 : h0 + 3 ≤ 6) (h5 : clr t = ycl t) (h6 : amt t = yam t) (h7 : arg t = yar t) (hfe : ce_fe r0 st0 eg ygv el yel sev ecp sw mcp swm wcp srf rcp sst cps t e g w) (heg : e ≤ g) (hwW : w ≤ W) (hS : ce_FS (ce_fp r0 st0 len own ysf pos yat hgt ytp clr ycl amt yam arg yar eg ygv el yel sev ecp sw mcp swm wcp srf rcp sst cps) t g w q) (hCO : ce_CO ev wm xop xnum yop ybs len st ywm xms yms W) (ho1 : xop (24 * a + p) = nI 18) (ho2 : yop (24 * a + p) = nI 18) (hb1 : xnum (24 * a + p) = b) (hb2 : ybs (24 * a + p) = b) (hc : b &&& 3 = nI c) (hc4 : c < 4) (hC : ce_cost 18 (bt wm (5 * a + c)) ≤ e) {p' : Nat} (hn : ce_ny 18 b p (stk (6 * t + h0)) = nI p') (hp' : p' < L) {a' : Nat} (ha' : a' < 6) (hs : stk (6 * t + h0) = nI a') (hD : ¬ ce_DN st (t + 1) (nI a) a' (stk (6 * t + h0 + 1))) (hL0 : len a' = nI 0) : ∃ j u' v', (j = 1 ∨ j = 2) ∧ ce_XJ j (xlim, xps, xvn, xkc, ev, nI W, wm, rf, nI (t + 1), ea, er, lr, lu, lc, xop, xnum, len, st, vers, evl, xms, own, clr, amt, arg, eg, el, pos, hgt, stk, sst, sev, sw, swm, srf) u' ∧ (∀ P : SY → Prop, P v' → wpY_step P (ylim, ev, nI W, rf, nI (t + 1), yend, yans, yrest, lc, yres, yused, ycalls, yver, ykept, yop, ybs, len, st, cps, old, bef, ywm, wcp, ecp, mcp, rcp, evl, yms, ysf, ycl, yam, yar, ygv, yel, yat, ytp, stk)) ∧ ce_ST xlim xps xvn xkc lr lu ylim yres yused ycalls yver ykept xop xnum len vers yop ybs old bef r0 st0 t (q + e) W u' v' := by
  have hg4 : g ≤ 1000 := hfe.2.2.2.2.1
  have hC1 : ce_cost 18 (bt wm (5 * a + c)) = 8 := rfl
  have h5' : t + 1 < 5 := by
    have : t + 1 ≠ 5 := fun q => hD (Or.inr (Or.inl q))
    omega
  exact ⟨2, _, _, Or.inr rfl, ce_XJ2 (ce_XJ1 (by omega) (fun P hp => xs_cll ht ha h1 h3 h4 hp1 hpL ho1 (by decide) hb1 hc hc4 hfe.1 (by omega) hC hh1 hh6 (show h0 + 2 ≤ 6 by omega) (fun q => absurd q (by decide)) (by rw [ce_nxy (by decide) (by decide)]; exact hn) hp' rfl (fun P hp => xc_opn ht (by omega) h1 ha hs ha' rfl rfl pk_us (by omega) hD hp) hp)) (ce_XJ1 (by omega) (fun P hp => xs_emp (by omega) ha' pk_us hL0 (fun P hp => xe_ok (xe_1 (t := t) (h := h0) (by omega) ((pk_un (by omega)).trans pk_us) (by omega) (by rw [pk_un (show t ≠ t + 1 by omega), pk_us, pk_us, pk_us, Int32.sub_self, Int32.sub_zero]; exact hp))) hp)), fun P hp => ys_oth ht ha h2 h3 h4 hp2 hpL ho2 (by decide) hb2 hc hc4 hfe.2.1 (by omega) hCO.2.2.2.2.1 hC hh2 hh6 (show h0 + 2 ≤ 6 by omega) (by decide) (by decide) hn hp' (by decide) (fun P hp => yc_pre ht hh2 (by omega) hs ha' rfl rfl pk_us (by omega) (yc_emp ht h2 ha ha' (by omega) pk_us hCO.2.2.2.1 hD hL0 (fun j hj => ce_WRn hCO.2.2.2.2.1 hj) (by rw [ce_uu]; exact hp))) hp, Or.inl ⟨t, q + (e - ce_cost 18 (bt wm (5 * a + c))), W, ce_stayE ht ha h1 h2 h3 h4 hp' h5 h6 h7 (by omega) hfe (by omega) heg hwW hS hCO (ce_COmv hCO (Or.inr ⟨a, ha, rfl⟩) ha' hD), by omega, by omega⟩⟩
theorem st_18r {t a p L c h0 e g w q W : Nat} {b : Int32} (ht : t < 5) (ha : a < 6) (h1 : own t = nI a) (h2 : ysf t = nI a) (h3 : len a = nI L) (h4 : L ≤ 24) (hpL : p < L) (hp1 : pos t = nI p) (hp2 : yat t = nI p) (hh1 : hgt t = nI (h0 + 3)) (hh2 : ytp t = nI (h0 + 3)) (hh6 : h0 + 3 ≤ 6) (h5 : clr t = ycl t) (h6 : amt t = yam t) (h7 : arg t = yar t) (hfe : ce_fe r0 st0 eg ygv el yel sev ecp sw mcp swm wcp srf rcp sst cps t e g w) (heg : e ≤ g) (hwW : w ≤ W) (hS : ce_FS (ce_fp r0 st0 len own ysf pos yat hgt ytp clr ycl amt yam arg yar eg ygv el yel sev ecp sw mcp swm wcp srf rcp sst cps) t g w q) (hCO : ce_CO ev wm xop xnum yop ybs len st ywm xms yms W) (ho1 : xop (24 * a + p) = nI 18) (ho2 : yop (24 * a + p) = nI 18) (hb1 : xnum (24 * a + p) = b) (hb2 : ybs (24 * a + p) = b) (hc : b &&& 3 = nI c) (hc4 : c < 4) (hC : ce_cost 18 (bt wm (5 * a + c)) ≤ e) {p' : Nat} (hn : ce_ny 18 b p (stk (6 * t + h0)) = nI p') (hp' : p' < L) {a' : Nat} (ha' : a' < 6) (hs : stk (6 * t + h0) = nI a') {L' : Nat} (hD : ¬ ce_DN st (t + 1) (nI a) a' (stk (6 * t + h0 + 1))) (hL' : len a' = nI L') (hl' : L' ≤ 24) (h0L : 0 < L') : ∃ j u' v', (j = 1 ∨ j = 2) ∧ ce_XJ j (xlim, xps, xvn, xkc, ev, nI W, wm, rf, nI (t + 1), ea, er, lr, lu, lc, xop, xnum, len, st, vers, evl, xms, own, clr, amt, arg, eg, el, pos, hgt, stk, sst, sev, sw, swm, srf) u' ∧ (∀ P : SY → Prop, P v' → wpY_step P (ylim, ev, nI W, rf, nI (t + 1), yend, yans, yrest, lc, yres, yused, ycalls, yver, ykept, yop, ybs, len, st, cps, old, bef, ywm, wcp, ecp, mcp, rcp, evl, yms, ysf, ycl, yam, yar, ygv, yel, yat, ytp, stk)) ∧ ce_ST xlim xps xvn xkc lr lu ylim yres yused ycalls yver ykept xop xnum len vers yop ybs old bef r0 st0 t (q + e) W u' v' := by
  have hg4 : g ≤ 1000 := hfe.2.2.2.2.1
  have hC1 : ce_cost 18 (bt wm (5 * a + c)) = 8 := rfl
  have h5' : t + 1 < 5 := by
    have : t + 1 ≠ 5 := fun q => hD (Or.inr (Or.inl q))
    omega
  have hen := ce_en_le (b := b) (e := (e - ce_cost 18 (bt wm (5 * a + c)))) (by omega)
  exact ⟨1, _, _, Or.inl rfl, ce_XJ1 (by omega) (fun P hp => xs_cll ht ha h1 h3 h4 hp1 hpL ho1 (by decide) hb1 hc hc4 hfe.1 (by omega) hC hh1 hh6 (show h0 + 2 ≤ 6 by omega) (fun q => absurd q (by decide)) (by rw [ce_nxy (by decide) (by decide)]; exact hn) hp' rfl (fun P hp => xc_opn ht (by omega) h1 ha hs ha' rfl rfl pk_us (by omega) hD hp) hp), fun P hp => ys_oth ht ha h2 h3 h4 hp2 hpL ho2 (by decide) hb2 hc hc4 hfe.2.1 (by omega) hCO.2.2.2.2.1 hC hh2 hh6 (show h0 + 2 ≤ 6 by omega) (by decide) (by decide) hn hp' (by decide) (fun P hp => yc_pre ht hh2 (by omega) hs ha' rfl rfl pk_us (by omega) (yc_run ht h2 ha ha' hCO.2.2.2.1 hD hL' h0L hl' (fun j hj => ce_WRn hCO.2.2.2.2.1 hj) hp)) hp, Or.inl ⟨t + 1, q + ((e - ce_cost 18 (bt wm (5 * a + c))) - ce_en b (e - ce_cost 18 (bt wm (5 * a + c)))) + ce_en b (e - ce_cost 18 (bt wm (5 * a + c))), W, ce_opnR ht ha h1 h2 h3 h4 hp' h5 h6 h7 (by omega) hfe (by omega) heg hwW hS hCO h5' ha' hL' hl' h0L hen hg4 (ce_COmv hCO (Or.inr ⟨a, ha, rfl⟩) ha' hD), by omega, by omega⟩⟩
end
end
section
section
variable {xlim xps xvn xkc ev wa wm rf dp ea er lr lu lc ylim yend yans yrest ybeg yres yused ycalls yver ykept : Int32} {xop xnum len st vers evl xms own clr amt arg eg el pos hgt stk sst sev sw swm srf yop ybs cps old bef ywm wcp ecp mcp rcp yms ysf ycl yam yar ygv yel yat ytp : Nat → Int32}
variable {r0 : Int32} {st0 : Nat → Int32}
set_option maxHeartbeats 1000000 in
theorem ce_step {t m W : Nat} {u : SX} {v : SY} (H : ce_R xlim xps xvn xkc lr lu ylim yres yused ycalls yver ykept xop xnum len vers yop ybs old bef r0 st0 t m W u v) : ∃ j u' v', (j = 1 ∨ j = 2) ∧ ce_XJ j u u' ∧ (∀ P : SY → Prop, P v' → wpY_step P v) ∧ ce_ST xlim xps xvn xkc lr lu ylim yres yused ycalls yver ykept xop xnum len vers yop ybs old bef r0 st0 t m W u' v' := by
  obtain ⟨ev, wm, rf, ea, er, lc, st, evl, xms, own, clr, amt, arg, eg, el, pos, hgt, stk, sst, sev, sw, swm, srf, rfl, yend, yans, yrest, cps, ywm, wcp, ecp, mcp, rcp, yms, ysf, ycl, yam, yar, ygv, yel, yat, ytp, rfl, h, e, g, w, q, rfl, ht, hh6, heg, hwW, ⟨⟨a, p, L, ha, h1, h2, h3, h4, hpL, hp1, hp2, hh1, hh2, h5, h6, h7⟩, hfe⟩, hS, hCO⟩ := H
  obtain ⟨L', hl', hlen', hprog⟩ := hCO.2.2.1 a (by omega)
  have eL : L = L' := (nI_eq (by omega) (by omega)).mp (h3.symm.trans hlen')
  subst eL
  obtain ⟨⟨k, hk, ho1, ho2⟩, hb⟩ := hprog p hpL
  obtain ⟨c, hc4, hc⟩ := pk_andE (xnum (24 * a + p)) (m := 3) 2 (by decide)
  by_cases hC' : e < ce_cost k (bt wm (5 * a + c))
  · exact st_out ht ha h1 h2 h3 h4 hpL hp1 hp2 hh1 hh2 hh6 h5 h6 h7 hfe heg hwW hS hCO ho1 ho2 rfl hb.symm hc hc4 hk hC'
  have hC := Nat.le_of_not_lt hC'
  by_cases hlo : h < ce_tkn k
  · exact st_low ht ha h1 h2 h3 h4 hpL hp1 hp2 hh1 hh2 hh6 h5 h6 h7 hfe heg hwW hS hCO ho1 ho2 rfl hb.symm hc hc4 hk hC hlo
  obtain ⟨h0, rfl⟩ : ∃ h0, h = h0 + ce_tkn k := ⟨h - ce_tkn k, by omega⟩
  by_cases hhi : 6 < h0 + ce_add k
  · exact st_hig ht ha h1 h2 h3 h4 hpL hp1 hp2 hh1 hh2 hh6 h5 h6 h7 hfe heg hwW hS hCO ho1 ho2 rfl hb.symm hc hc4 hk hC hhi
  have hadd := Nat.le_of_not_lt hhi
  by_cases n19 : k = 19
  · exact st_ret ht ha h1 h2 h3 h4 hpL hp1 hp2 hh1 hh2 hh6 h5 h6 h7 hfe heg hwW hS hCO ho1 ho2 rfl hb.symm hc hc4 hk hC n19
  by_cases n20 : k = 20
  · exact st_rvt ht ha h1 h2 h3 h4 hpL hp1 hp2 hh1 hh2 hh6 h5 h6 h7 hfe heg hwW hS hCO ho1 ho2 rfl hb.symm hc hc4 hk hC n20
  by_cases hn : ce_ny k (xnum (24 * a + p)) p (stk (6 * t + h0)) < 0 ∨ ¬ ce_ny k (xnum (24 * a + p)) p (stk (6 * t + h0)) < nI L
  · exact st_jmp ht ha h1 h2 h3 h4 hpL hp1 hp2 hh1 hh2 hh6 h5 h6 h7 hfe heg hwW hS hCO ho1 ho2 rfl hb.symm hc hc4 hk hC hadd (fun z => by subst z; have : ce_tkn 17 = 1 := rfl; omega) n19 n20 hn
  obtain ⟨p', hp', hn⟩ : ∃ p', p' < L ∧ ce_ny k (xnum (24 * a + p)) p (stk (6 * t + h0)) = nI p' := by
    rcases pk_ix (ce_ny k (xnum (24 * a + p)) p (stk (6 * t + h0))) (n := L) (by omega) with z | z | ⟨j, hj, z⟩
    · exact absurd (Or.inl z) hn
    · exact absurd (Or.inr (Int32.not_lt.mpr z)) hn
    · exact ⟨j, hj, z⟩
  clear hC' hlo hhi
  rcases ce_k24 hk with rfl | rfl | rfl | rfl | rfl | rfl | rfl | rfl | rfl | rfl | rfl | rfl | rfl | rfl | rfl | rfl | rfl | rfl | rfl | rfl | rfl | rfl | rfl | rfl
  · exact st_0 ht ha h1 h2 h3 h4 hpL hp1 hp2 hh1 hh2 hh6 h5 h6 h7 hfe heg hwW hS hCO ho1 ho2 rfl hb.symm hc hc4 hC hadd hn hp'
  · exact st_1 ht ha h1 h2 h3 h4 hpL hp1 hp2 hh1 hh2 hh6 h5 h6 h7 hfe heg hwW hS hCO ho1 ho2 rfl hb.symm hc hc4 hC hadd hn hp'
  · exact st_2 ht ha h1 h2 h3 h4 hpL hp1 hp2 hh1 hh2 hh6 h5 h6 h7 hfe heg hwW hS hCO ho1 ho2 rfl hb.symm hc hc4 hC hadd hn hp'
  · exact st_3 ht ha h1 h2 h3 h4 hpL hp1 hp2 hh1 hh2 hh6 h5 h6 h7 hfe heg hwW hS hCO ho1 ho2 rfl hb.symm hc hc4 hC hadd hn hp'
  · exact st_4 ht ha h1 h2 h3 h4 hpL hp1 hp2 hh1 hh2 hh6 h5 h6 h7 hfe heg hwW hS hCO ho1 ho2 rfl hb.symm hc hc4 hC hadd hn hp'
  · exact st_5 ht ha h1 h2 h3 h4 hpL hp1 hp2 hh1 hh2 hh6 h5 h6 h7 hfe heg hwW hS hCO ho1 ho2 rfl hb.symm hc hc4 hC hadd hn hp'
  · exact st_6 ht ha h1 h2 h3 h4 hpL hp1 hp2 hh1 hh2 hh6 h5 h6 h7 hfe heg hwW hS hCO ho1 ho2 rfl hb.symm hc hc4 hC hadd hn hp'
  · exact st_7 ht ha h1 h2 h3 h4 hpL hp1 hp2 hh1 hh2 hh6 h5 h6 h7 hfe heg hwW hS hCO ho1 ho2 rfl hb.symm hc hc4 hC hadd hn hp'
  · exact st_8 ht ha h1 h2 h3 h4 hpL hp1 hp2 hh1 hh2 hh6 h5 h6 h7 hfe heg hwW hS hCO ho1 ho2 rfl hb.symm hc hc4 hC hadd hn hp'
  · exact st_9 ht ha h1 h2 h3 h4 hpL hp1 hp2 hh1 hh2 hh6 h5 h6 h7 hfe heg hwW hS hCO ho1 ho2 rfl hb.symm hc hc4 hC hadd hn hp'
  · exact st_10 ht ha h1 h2 h3 h4 hpL hp1 hp2 hh1 hh2 hh6 h5 h6 h7 hfe heg hwW hS hCO ho1 ho2 rfl hb.symm hc hc4 hC hadd hn hp'
  · exact st_11 ht ha h1 h2 h3 h4 hpL hp1 hp2 hh1 hh2 hh6 h5 h6 h7 hfe heg hwW hS hCO ho1 ho2 rfl hb.symm hc hc4 hC hadd hn hp'
  · exact st_12 ht ha h1 h2 h3 h4 hpL hp1 hp2 hh1 hh2 hh6 h5 h6 h7 hfe heg hwW hS hCO ho1 ho2 rfl hb.symm hc hc4 hC hadd hn hp'
  · exact st_13 ht ha h1 h2 h3 h4 hpL hp1 hp2 hh1 hh2 hh6 h5 h6 h7 hfe heg hwW hS hCO ho1 ho2 rfl hb.symm hc hc4 hC hadd hn hp'
  · exact st_14 ht ha h1 h2 h3 h4 hpL hp1 hp2 hh1 hh2 hh6 h5 h6 h7 hfe heg hwW hS hCO ho1 ho2 rfl hb.symm hc hc4 hC hadd hn hp'
  · exact st_15 ht ha h1 h2 h3 h4 hpL hp1 hp2 hh1 hh2 hh6 h5 h6 h7 hfe heg hwW hS hCO ho1 ho2 rfl hb.symm hc hc4 hC hadd hn hp'
  · exact st_16 ht ha h1 h2 h3 h4 hpL hp1 hp2 hh1 hh2 hh6 h5 h6 h7 hfe heg hwW hS hCO ho1 ho2 rfl hb.symm hc hc4 hC hadd hn hp'
  · exact st_17 ht ha h1 h2 h3 h4 hpL hp1 hp2 hh1 hh2 hh6 h5 h6 h7 hfe heg hwW hS hCO ho1 ho2 rfl hb.symm hc hc4 hC hadd hn hp'
  · rcases pk_ix (stk (6 * t + h0)) (n := 6) (by decide) with z | z | ⟨j, hj, z⟩
    · exact st_18n ht ha h1 h2 h3 h4 hpL hp1 hp2 hh1 hh2 hh6 h5 h6 h7 hfe heg hwW hS hCO ho1 ho2 rfl hb.symm hc hc4 hC hn hp' (Or.inl z)
    · exact st_18n ht ha h1 h2 h3 h4 hpL hp1 hp2 hh1 hh2 hh6 h5 h6 h7 hfe heg hwW hS hCO ho1 ho2 rfl hb.symm hc hc4 hC hn hp' (Or.inr z)
    · obtain ⟨L2, hl2, hlen2, _⟩ := hCO.2.2.1 j (by omega)
      by_cases hD : ce_DN st (t + 1) (nI a) j (stk (6 * t + h0 + 1))
      · exact st_18d ht ha h1 h2 h3 h4 hpL hp1 hp2 hh1 hh2 hh6 h5 h6 h7 hfe heg hwW hS hCO ho1 ho2 rfl hb.symm hc hc4 hC hn hp' hj z hD
      · by_cases hz : L2 = 0
        · subst hz
          exact st_18e ht ha h1 h2 h3 h4 hpL hp1 hp2 hh1 hh2 hh6 h5 h6 h7 hfe heg hwW hS hCO ho1 ho2 rfl hb.symm hc hc4 hC hn hp' hj z hD hlen2
        · exact st_18r ht ha h1 h2 h3 h4 hpL hp1 hp2 hh1 hh2 hh6 h5 h6 h7 hfe heg hwW hS hCO ho1 ho2 rfl hb.symm hc hc4 hC hn hp' hj z hD hlen2 hl2 (by omega)
  · exact absurd rfl n19
  · exact absurd rfl n20
  · obtain ⟨E, hE, hev⟩ := hCO.1
    by_cases hE2 : E = 20
    · exact st_21n ht ha h1 h2 h3 h4 hpL hp1 hp2 hh1 hh2 hh6 h5 h6 h7 hfe heg hwW hS hCO ho1 ho2 rfl hb.symm hc hc4 hC hadd hn hp' hev hE2
    · exact st_21y ht ha h1 h2 h3 h4 hpL hp1 hp2 hh1 hh2 hh6 h5 h6 h7 hfe heg hwW hS hCO ho1 ho2 rfl hb.symm hc hc4 hC hadd hn hp' hev (by omega)
  · exact st_22 ht ha h1 h2 h3 h4 hpL hp1 hp2 hh1 hh2 hh6 h5 h6 h7 hfe heg hwW hS hCO ho1 ho2 rfl hb.symm hc hc4 hC hadd hn hp'
  · have hW6 := hCO.2.1
    by_cases hW2 : W = 6
    · exact st_23n ht ha h1 h2 h3 h4 hpL hp1 hp2 hh1 hh2 hh6 h5 h6 h7 hfe heg hwW hS hCO ho1 ho2 rfl hb.symm hc hc4 hC hadd hn hp' (Or.inl hW2)
    · rcases pk_ix (stk (6 * t + h0)) (n := 6) (by decide) with z | z | ⟨j, hj, z⟩
      · exact st_23n ht ha h1 h2 h3 h4 hpL hp1 hp2 hh1 hh2 hh6 h5 h6 h7 hfe heg hwW hS hCO ho1 ho2 rfl hb.symm hc hc4 hC hadd hn hp' (Or.inr (Or.inl z))
      · exact st_23n ht ha h1 h2 h3 h4 hpL hp1 hp2 hh1 hh2 hh6 h5 h6 h7 hfe heg hwW hS hCO ho1 ho2 rfl hb.symm hc hc4 hC hadd hn hp' (Or.inr (Or.inr z))
      · exact st_23y ht ha h1 h2 h3 h4 hpL hp1 hp2 hh1 hh2 hh6 h5 h6 h7 hfe heg hwW hS hCO ho1 ho2 rfl hb.symm hc hc4 hC hadd hn hp' (by omega) hj z
def ce_YL (post : SY → Prop) (n : Nat) (b : Int32) (v : SY) : Prop := match v with
  | (ylim, ev, wa, rf, dp, yend, yans, yrest, ybeg, yres, yused, ycalls, yver, ykept, yop, ybs, len, st, cps, old, bef, ywm, wcp, ecp, mcp, rcp, evl, yms, ysf, ycl, yam, yar, ygv, yel, yat, ytp, stk) => wY_perform_18 post n b (ylim) (ev) (wa) (rf) (dp) (yend) (yans) (yrest) (ybeg) (yres) (yused) (ycalls) (yver) (ykept) (yop) (ybs) (len) (st) (cps) (old) (bef) (ywm) (wcp) (ecp) (mcp) (rcp) (evl) (yms) (ysf) (ycl) (yam) (yar) (ygv) (yel) (yat) (ytp) (stk)
theorem ce_xlF {post : Int32 → SX → Prop} {n e W : Nat} {k : Int32} {u : SX} {v : SY} (H : ce_F xlim xps xvn xkc lr lu ylim yres yused ycalls yver ykept xop xnum len vers yop ybs old bef r0 st0 e W u v) (hp : post (nI e) u) : ce_XL post (n + 1) k u := by
  obtain ⟨ev, wm, rf, ea, er, lc, st, evl, xms, own, clr, amt, arg, eg, el, pos, hgt, stk, sst, sev, sw, swm, srf, rfl, cps, ywm, wcp, ecp, mcp, rcp, yms, ysf, ycl, yam, yar, ygv, yel, yat, ytp, rfl, hel, hr⟩ := H
  unfold ce_XL
  rw [← hel] at hp
  exact br_c (fun _ => hp) (fun _ => br_t (by decide) hp)
theorem ce_ylS {post : SY → Prop} {n t m W : Nat} {u : SX} {v v' : SY} (hY : ∀ P : SY → Prop, P v' → wpY_step P v) (H : ce_R xlim xps xvn xkc lr lu ylim yres yused ycalls yver ykept xop xnum len vers yop ybs old bef r0 st0 t m W u v') (hp : ce_YL post n 1 v') : ce_YL post (n + 1) 1 v := by
  obtain ⟨ev, wm, rf, ea, er, lc, st, evl, xms, own, clr, amt, arg, eg, el, pos, hgt, stk, sst, sev, sw, swm, srf, rfl, yend, yans, yrest, cps, ywm, wcp, ecp, mcp, rcp, yms, ysf, ycl, yam, yar, ygv, yel, yat, ytp, rfl, h, e, g, w, q, rfl, ht, hr⟩ := H
  obtain ⟨a1, a2, a3, a4, a5, a6, a7, a8, a9, a10, a11, a12, a13, a14, a15, a16, a17, a18, a19, a20, a21, a22, a23, a24, a25, a26, a27, a28, a29, a30, a31, a32, a33, a34, a35, a36, a37⟩ := v
  exact br_f (by decide) (hY _ (br_f (nI_nle (by omega) (by omega)) hp))
theorem ce_ylF {post : SY → Prop} {n e W : Nat} {u : SX} {v v' : SY} (hY : ∀ P : SY → Prop, P v' → wpY_step P v) (H : ce_F xlim xps xvn xkc lr lu ylim yres yused ycalls yver ykept xop xnum len vers yop ybs old bef r0 st0 e W u v') (hp : post v') : ce_YL post (n + 2) 1 v := by
  obtain ⟨ev, wm, rf, ea, er, lc, st, evl, xms, own, clr, amt, arg, eg, el, pos, hgt, stk, sst, sev, sw, swm, srf, rfl, cps, ywm, wcp, ecp, mcp, rcp, yms, ysf, ycl, yam, yar, ygv, yel, yat, ytp, rfl, hr⟩ := H
  obtain ⟨a1, a2, a3, a4, a5, a6, a7, a8, a9, a10, a11, a12, a13, a14, a15, a16, a17, a18, a19, a20, a21, a22, a23, a24, a25, a26, a27, a28, a29, a30, a31, a32, a33, a34, a35, a36, a37⟩ := v
  exact br_f (by decide) (hY _ (br_t (by decide) (br_t rfl hp)))
theorem ce_run : ∀ (M : Nat) {t m W : Nat} {u : SX} {v : SY}, ce_R xlim xps xvn xkc lr lu ylim yres yused ycalls yver ykept xop xnum len vers yop ybs old bef r0 st0 t m W u v → 2 * m + t < M → ∃ e' W' u' v', ce_F xlim xps xvn xkc lr lu ylim yres yused ycalls yver ykept xop xnum len vers yop ybs old bef r0 st0 e' W' u' v' ∧ e' + W' ≤ m + W ∧ (∀ (post : Int32 → SX → Prop) (n k : Nat), k + 2 * M ≤ 1000000 → 2 * M < n → post (nI e') u' → ce_XL post n (nI k) u) ∧ (∀ (post : SY → Prop) (n : Nat), M < n → post v' → ce_YL post n 1 v) := by
  intro M
  induction M with
  | zero => intro t m W u v _ h; omega
  | succ M ih =>
    intro t m W u v H hM
    obtain ⟨j, u1, v1, hj, hX, hY, hST⟩ := ce_step H
    rcases hST with ⟨t', m', W', hR, hlt, hmw⟩ | ⟨e', W', hF, hmw⟩
    · obtain ⟨e2, W2, u2, v2, hF2, hw2, hx2, hy2⟩ := ih hR (by omega)
      refine ⟨e2, W2, u2, v2, hF2, by omega, ?_, ?_⟩
      · intro post n k hk hn hp
        obtain ⟨n', rfl⟩ : ∃ n', n = n' + j := ⟨n - j, by omega⟩
        exact hX post n' k (by omega) (hx2 post n' (k + j) (by omega) (by omega) hp)
      · intro post n hn hp
        obtain ⟨n', rfl⟩ : ∃ n', n = n' + 1 := ⟨n - 1, by omega⟩
        exact ce_ylS hY hR (hy2 post n' (by omega) hp)
    · refine ⟨e', W', u1, v1, hF, hmw, ?_, ?_⟩
      · intro post n k hk hn hp
        obtain ⟨n', rfl⟩ : ∃ n', n = n' + 1 + j := ⟨n - j - 1, by omega⟩
        exact hX post (n' + 1) k (by omega) (ce_xlF hF hp)
      · intro post n hn hp
        obtain ⟨n', rfl⟩ : ∃ n', n = n' + 2 := ⟨n - 2, by omega⟩
        exact ce_ylF hY hF hp
end
end
section
section
variable {xlim xps xvn xkc ev wa wm rf dp ea er lr lu lc ylim yend yans yrest ybeg yres yused ycalls yver ykept : Int32} {xop xnum len st vers evl xms own clr amt arg eg el pos hgt stk sst sev sw swm srf yop ybs cps old bef ywm wcp ecp mcp rcp yms ysf ycl yam yar ygv yel yat ytp : Nat → Int32}
variable {r0 : Int32} {st0 : Nat → Int32}
theorem yp_den {post : SY → Prop} {a : Nat} {cl am ar en : Int32} (hc : ce_CL cl) (ha : a < 6) (hB : ce_BL st) (hD : ce_DN st 0 cl a am) (hp : post (ylim, ev, wa, rf, 0, 4, 0, en, ybeg, yres, yused, ycalls, yver, ykept, yop, ybs, len, st, cps, old, bef, ywm, wcp, ecp, mcp, rcp, evl, yms, ysf, ycl, yam, yar, ygv, yel, yat, ytp, stk)) : wpY_perform post (ylim, ev, wa, rf, dp, yend, yans, yrest, ybeg, yres, yused, ycalls, yver, ykept, yop, ybs, len, st, cps, old, bef, ywm, wcp, ecp, mcp, rcp, evl, yms, ysf, ycl, yam, yar, ygv, yel, yat, ytp, stk) (nI a) am ar cl en := by
  unfold wpY_perform
  exact yb_den (d := 0) (by omega) hc ha hB hD ⟨1, br_t rfl hp⟩
theorem ce_perf {a n W : Nat} {cl am ar : Int32} (hc : ce_CL cl) (ha : a < 6) (hn : n ≤ 1000) (hCO : ce_CO ev wm xop xnum yop ybs len st ywm xms yms W) (hD : ¬ ce_DN st 0 cl a am) : ∃ e' W' u' v', ce_F xlim xps xvn xkc lr lu ylim yres yused ycalls yver ykept xop xnum len vers yop ybs old bef rf st e' W' u' v' ∧ e' + W' ≤ n + W ∧ (∀ post : Int32 → SX → Prop, post (nI e') u' → wpX_runCall post (xlim, xps, xvn, xkc, ev, nI W, wm, rf, 0, ea, er, lr, lu, lc, xop, xnum, len, st, vers, evl, xms, own, clr, amt, arg, eg, el, pos, hgt, stk, sst, sev, sw, swm, srf) cl (nI a) am ar (nI n)) ∧ (∀ post : SY → Prop, post v' → wpY_perform post (ylim, ev, nI W, rf, dp, yend, yans, yrest, lc, yres, yused, ycalls, yver, ykept, yop, ybs, len, st, cps, old, bef, ywm, wcp, ecp, mcp, rcp, evl, yms, ysf, ycl, yam, yar, ygv, yel, yat, ytp, stk) (nI a) am ar cl (nI n)) := by
  obtain ⟨L, hl, hL, _⟩ := hCO.2.2.1 a (by omega)
  have hw : ∀ j, j < 24 → vp_nar .boolean (ywm j) = ywm j := fun j hj => ce_WRn hCO.2.2.2.2.1 hj
  have hCO' := ce_COmv hCO hc ha hD
  by_cases hz : L = 0
  · subst hz
    have hF : ce_F xlim xps xvn xkc lr lu ylim yres yused ycalls yver ykept xop xnum len vers yop ybs old bef rf st n W (xlim, xps, xvn, xkc, ev, nI W, wm, rf, 0, 0, 0, lr, lu, lc + 1, xop, xnum, len, ce_mv st cl a am, vers, evl, xms, upd own 0 (nI a), upd clr 0 cl, upd amt 0 am, upd arg 0 ar, upd eg 0 (nI n), upd el 0 (nI n), upd pos 0 0, upd hgt 0 0, stk, ce_cp sst (30 * 0) 30 st, upd sev 0 ev, upd sw 0 (nI W), upd swm 0 wm, upd srf 0 rf) (ylim, ev, nI W, rf, 0, 0, 0, nI n, lc + 1, yres, yused, ycalls, yver, ykept, yop, ybs, len, ce_mv st cl a am, cps, old, bef, ywm, wcp, ecp, mcp, rcp, evl, yms, ysf, ycl, yam, yar, ygv, yel, yat, ytp, stk) := ⟨_, _, _, _, _, _, _, _, _, _, _, _, _, _, _, _, _, _, _, _, _, _, _, rfl, _, _, _, _, _, _, _, _, _, _, _, _, _, _, _, rfl, pk_us, hCO', Or.inl rfl, fun z => absurd rfl z⟩
    refine ⟨n, W, _, _, hF, Nat.le_refl _, ?_, ?_⟩
    · intro post hp
      unfold wpX_runCall
      refine xw_open (t := 0) (by omega) hc ha ⟨2, ?_⟩
      exact ce_XJ1 (t := 0) (by omega) (fun P hp => xs_emp (t := 0) (by omega) ha pk_us hL (fun P hp => xe_ok (t := 0) (xe_0 hp)) hp) post 1 0 (by omega) (ce_xlF hF hp)
    · intro post hp
      unfold wpY_perform
      exact yb_ok (t := 0) (by omega) hc ha hCO.2.2.2.1 hD hL hl hw (fun _ => ⟨1, br_t rfl hp⟩) (fun z => absurd z (by omega))
  · have hR : ce_R xlim xps xvn xkc lr lu ylim yres yused ycalls yver ykept xop xnum len vers yop ybs old bef rf st 0 (0 + n) W (xlim, xps, xvn, xkc, ev, nI W, wm, rf, nI (0 + 1), ea, er, lr, lu, lc + 1, xop, xnum, len, ce_mv st cl a am, vers, evl, xms, upd own 0 (nI a), upd clr 0 cl, upd amt 0 am, upd arg 0 ar, upd eg 0 (nI n), upd el 0 (nI n), upd pos 0 0, upd hgt 0 0, stk, ce_cp sst (30 * 0) 30 st, upd sev 0 ev, upd sw 0 (nI W), upd swm 0 wm, upd srf 0 rf) (ylim, ev, nI W, rf, nI (0 + 1), 0, 0, nI n, lc + 1, yres, yused, ycalls, yver, ykept, yop, ybs, len, ce_mv st cl a am, ce_cp cps (30 * 0) 30 st, old, bef, ywm, ce_cp wcp (24 * 0) 24 ywm, upd ecp 0 ev, upd mcp 0 (nI W), upd rcp 0 rf, evl, yms, upd ysf 0 (nI a), upd ycl 0 cl, upd yam 0 am, upd yar 0 ar, upd ygv 0 (nI n), upd yel 0 (nI n), upd yat 0 0, upd ytp 0 0, stk) :=
      ⟨_, _, _, _, _, _, _, _, _, _, _, _, _, _, _, _, _, _, _, _, _, _, _, rfl, _, _, _, _, _, _, _, _, _, _, _, _, _, _, _, _, _, _, rfl, 0, n, n, W, 0, rfl, by omega, by omega, by omega, by omega, ce_new ha hL hl (by omega) hn hCO (fun _ => ⟨rfl, fun _ _ => rfl⟩), rfl, hCO'⟩
    obtain ⟨e', W', u', v', hF, hw', hx, hy⟩ := ce_run (2 * n + 1) hR (by omega)
    refine ⟨e', W', u', v', hF, by omega, ?_, ?_⟩
    · intro post hp
      unfold wpX_runCall
      exact xw_open (t := 0) (by omega) hc ha ⟨2 * (2 * n + 1) + 1, hx post (2 * (2 * n + 1) + 1) 0 (by omega) (by omega) hp⟩
    · intro post hp
      unfold wpY_perform
      exact yb_ok (t := 0) (by omega) hc ha hCO.2.2.2.1 hD hL hl hw (fun z => absurd z hz) (fun _ => ⟨2 * n + 2, hy post (2 * n + 2) (by omega) hp⟩)
/-! messages -/
theorem xw_drop {post : SX → Prop} {W : Nat} (hp : post (xlim, xps, xvn, xkc, ev, nI W, wm, rf, dp, ea, er, lr, lu, lc, xop, xnum, len, st, vers, evl, ce_cp xms 0 20 (fun j => xms (j + 4)), own, clr, amt, arg, eg, el, pos, hgt, stk, sst, sev, sw, swm, srf)) : wpX_dropFrontMessage post (xlim, xps, xvn, xkc, ev, nI (W + 1), wm, rf, dp, ea, er, lr, lu, lc, xop, xnum, len, st, vers, evl, xms, own, clr, amt, arg, eg, el, pos, hgt, stk, sst, sev, sw, swm, srf) := by
  unfold wpX_dropFrontMessage
  refine nm_r (nI_pred W) ?_
  refine pk_loop (fun n i s => wX_dropFrontMessage_12 post (xlim) (xps) (xvn) (xkc) (ev) (nI W) (wm) (rf) (dp) (ea) (er) (lr) (lu) (lc) n (nI i) (xop) (xnum) (len) (st) (vers) (evl) (s) (own) (clr) (amt) (arg) (eg) (el) (pos) (hgt) (stk) (sst) (sev) (sw) (swm) (srf)) (fun i s => 4 ≤ i ∧ s = ce_cp xms 0 (i - 4) (fun j => xms (j + 4))) 24 4 xms (by omega) ⟨by omega, (ce_cp0 _ _ _).symm⟩ ?_ ?_
  · intro n s e
    obtain ⟨_, rfl⟩ := e
    exact br_t (by decide) hp
  · intro n i s hi e H
    obtain ⟨h4, rfl⟩ := e
    obtain ⟨i, rfl⟩ : ∃ i', i = i' + 4 := ⟨i - 4, by omega⟩
    refine br_f (nI_ge (b := 24) hi (by decide)) ?_
    rw [ce_s4, ce_cl (t := i) (by omega), ce_cl (t := i + 4) (by omega), nI_1, show i + 4 - 4 = i by omega, ce_cpo (by omega)]
    refine ⟨ce_in (by omega), ce_in (by omega), nm_r (ce_cps0 xms i (fun j => xms (j + 4))) (nm_e (H _ ⟨by omega, ?_⟩))⟩
    rw [show i + 4 + 1 - 4 = i + 1 by omega]
theorem yw_msg {post : SY → Prop} {W : Nat} (hW : W < 6) (hp : wpY_perform post (ylim, ev, nI W, rf, dp, yend, yans, yrest, ybeg, yres, yused, ycalls, yver, ykept, yop, ybs, len, st, cps, old, bef, ywm, wcp, ecp, mcp, rcp, evl, ce_cp yms 0 (4 * W) (fun j => yms (j + 4)), ysf, ycl, yam, yar, ygv, yel, yat, ytp, stk) (yms 0) (yms 1) (yms 2) (yms 3) yrest) : wpY_message post (ylim, ev, nI (W + 1), rf, dp, yend, yans, yrest, ybeg, yres, yused, ycalls, yver, ykept, yop, ybs, len, st, cps, old, bef, ywm, wcp, ecp, mcp, rcp, evl, yms, ysf, ycl, yam, yar, ygv, yel, yat, ytp, stk) := by
  unfold wpY_message
  refine nm_e (nm_e (nm_e (nm_e (nm_r (nI_pred W) ?_))))
  refine loop_0 (fun n i s => wY_message_42 post (yms 0) (yms 1) (yms 2) (yms 3) (ylim) (ev) (nI W) (rf) (dp) (yend) (yans) (yrest) (ybeg) (yres) (yused) (ycalls) (yver) (ykept) n (nI i) (yop) (ybs) (len) (st) (cps) (old) (bef) (ywm) (wcp) (ecp) (mcp) (rcp) (evl) (s) (ysf) (ycl) (yam) (yar) (ygv) (yel) (yat) (ytp) (stk)) (fun i s => s = ce_cp yms 0 i (fun j => yms (j + 4))) (4 * W) yms (ce_cp0 _ _ _).symm ?_ ?_
  · intro n s e
    subst e
    refine br_t ?_ hp
    rw [ce_mL4]; exact nI_le (by omega) (by omega)
  · intro n i s hi e H
    subst e
    refine br_f ?_ ?_
    · rw [ce_mL4]; exact nI_ge hi (by omega)
    · rw [ce_a4, ce_cl (t := i) (by omega), ce_cl (t := i + 4) (by omega), nI_1, ce_cpo (by omega)]
      exact ⟨ce_in (by omega), ce_in (by omega), nm_r (ce_cps0 yms i (fun j => yms (j + 4))) (nm_e (H _ rfl))⟩
theorem ce_MSdrop {W : Nat} (hW : W < 6) (h : ce_MS xms yms (W + 1)) : ce_MS (ce_cp xms 0 20 (fun j => xms (j + 4))) (ce_cp yms 0 (4 * W) (fun j => yms (j + 4))) W := by
  intro i hi
  have H := h (i + 1) (by omega)
  rw [show 4 * (i + 1) = 4 * i + 4 by omega] at H
  refine ⟨?_, ?_, ?_, ?_⟩
  · rw [ce_cpi0 (by omega), ce_cpi0 (by omega)]; exact H.1
  · rw [ce_cpi0 (by omega), ce_cpi0 (by omega), show 4 * i + 1 + 4 = 4 * i + 4 + 1 by omega]; exact H.2.1
  · rw [ce_cpi0 (by omega), ce_cpi0 (by omega), show 4 * i + 2 + 4 = 4 * i + 4 + 2 by omega]; exact H.2.2.1
  · rw [ce_cpi0 (by omega), ce_cpi0 (by omega), show 4 * i + 3 + 4 = 4 * i + 4 + 3 by omega]; exact H.2.2.2
end
end
section
section
theorem pk_loopD {σ : Type} (W : Nat → Nat → σ → Prop) (I : Nat → σ → Prop) (hx : ∀ n s, I 0 s → W (n + 1) 0 s)
    (hs : ∀ n i s, I (i + 1) s → (∀ s', I i s' → W n i s') → W (n + 1) (i + 1) s) : ∀ (e : Nat) (s : σ), I e s → W (e + 1) e s := by
  intro e
  induction e with
  | zero => exact fun s h => hx 0 s h
  | succ e ih => exact fun s h => hs (e + 1) e s h (fun s' h' => ih s' h')
variable {xlim xps xvn xkc ev wa wm rf dp ea er lr lu lc ylim yend yans yrest ybeg yres yused ycalls yver ykept : Int32} {xop xnum len st vers evl xms own clr amt arg eg el pos hgt stk sst sev sw swm srf yop ybs cps old bef ywm wcp ecp mcp rcp yms ysf ycl yam yar ygv yel yat ytp : Nat → Int32}
variable {r0 : Int32} {st0 : Nat → Int32}
/-- between the messages: e energy is left, W wait -/
def ce_G (xlim xps xvn xkc lr lu ylim yres yused ycalls yver ykept : Int32) (xop xnum len vers yop ybs old bef : Nat → Int32) (e W : Nat) (u : SX) (v : SY) : Prop := ∃ (ev wm rf ea er lc : Int32) (st evl xms own clr amt arg eg el pos hgt stk sst sev sw swm srf : Nat → Int32), u = (xlim, xps, xvn, xkc, ev, nI W, wm, rf, 0, ea, er, lr, lu, lc, xop, xnum, len, st, vers, evl, xms, own, clr, amt, arg, eg, el, pos, hgt, stk, sst, sev, sw, swm, srf) ∧ ∃ (yend yans : Int32) (cps ywm wcp ecp mcp rcp yms ysf ycl yam yar ygv yel yat ytp : Nat → Int32), v = (ylim, ev, nI W, rf, 0, yend, yans, nI e, lc, yres, yused, ycalls, yver, ykept, yop, ybs, len, st, cps, old, bef, ywm, wcp, ecp, mcp, rcp, evl, yms, ysf, ycl, yam, yar, ygv, yel, yat, ytp, stk) ∧ ce_CO ev wm xop xnum yop ybs len st ywm xms yms W ∧ e + W ≤ 1000
def ce_ML (post : Int32 → SX → Prop) (n : Nat) (e k : Int32) (u : SX) : Prop := match u with
  | (xlim, xps, xvn, xkc, ev, wa, wm, rf, dp, ea, er, lr, lu, lc, xop, xnum, len, st, vers, evl, xms, own, clr, amt, arg, eg, el, pos, hgt, stk, sst, sev, sw, swm, srf) => wX_runMessages_4 post n e k xlim xps xvn xkc ev wa wm rf dp ea er lr lu lc xop xnum len st vers evl xms own clr amt arg eg el pos hgt stk sst sev sw swm srf
def ce_YM (post : Int32 → SY → Prop) (x4 x5 x6 : Int32) (n : Nat) (v : SY) : Prop := match v with
  | (ylim, ev, wa, rf, dp, yend, yans, yrest, ybeg, yres, yused, ycalls, yver, ykept, yop, ybs, len, st, cps, old, bef, ywm, wcp, ecp, mcp, rcp, evl, yms, ysf, ycl, yam, yar, ygv, yel, yat, ytp, stk) => wY_call_132 post x4 x5 x6 n (ylim) (ev) (wa) (rf) (dp) (yend) (yans) (yrest) (ybeg) (yres) (yused) (ycalls) (yver) (ykept) (yop) (ybs) (len) (st) (cps) (old) (bef) (ywm) (wcp) (ecp) (mcp) (rcp) (evl) (yms) (ysf) (ycl) (yam) (yar) (ygv) (yel) (yat) (ytp) (stk)
def ce_Y150 (post : Int32 → SY → Prop) (x4 x5 x6 : Int32) (v : SY) : Prop := match v with
  | (ylim, ev, wa, rf, dp, yend, yans, yrest, ybeg, yres, yused, ycalls, yver, ykept, yop, ybs, len, st, cps, old, bef, ywm, wcp, ecp, mcp, rcp, evl, yms, ysf, ycl, yam, yar, ygv, yel, yat, ytp, stk) => wY_call_150 post x4 x5 x6 (ylim) (ev) (wa) (rf) (dp) (yend) (yans) (yrest) (ybeg) (yres) (yused) (ycalls) (yver) (ykept) (yop) (ybs) (len) (st) (cps) (old) (bef) (ywm) (wcp) (ecp) (mcp) (rcp) (evl) (yms) (ysf) (ycl) (yam) (yar) (ygv) (yel) (yat) (ytp) (stk)
theorem ce_msg : ∀ (B : Nat) {e W : Nat} {u : SX} {v : SY}, ce_G xlim xps xvn xkc lr lu ylim yres yused ycalls yver ykept xop xnum len vers yop ybs old bef e W u v → e + W < B → ∃ e' u' v', ce_G xlim xps xvn xkc lr lu ylim yres yused ycalls yver ykept xop xnum len vers yop ybs old bef e' 0 u' v' ∧ (∀ (post : Int32 → SX → Prop) (n k : Nat), k + B ≤ 1000000 → B < n → post (nI e') u' → ce_ML post n (nI e) (nI k) u) ∧ (∀ (post : Int32 → SY → Prop) (x4 x5 x6 : Int32) (n : Nat), B < n → wpY_newVersion (ce_Y150 post x4 x5 x6) v' → ce_YM post x4 x5 x6 n v) := by
  intro B
  induction B with
  | zero => intro e W u v _ h; omega
  | succ B ih =>
    intro e W u v H hB
    obtain ⟨ev, wm, rf, ea, er, lc, st, evl, xms, own, clr, amt, arg, eg, el, pos, hgt, stk, sst, sev, sw, swm, srf, rfl, yend, yans, cps, ywm, wcp, ecp, mcp, rcp, yms, ysf, ycl, yam, yar, ygv, yel, yat, ytp, rfl, hCO, he⟩ := H
    cases W with
    | zero =>
      refine ⟨e, (xlim, xps, xvn, xkc, ev, nI 0, wm, rf, 0, ea, er, lr, lu, lc, xop, xnum, len, st, vers, evl, xms, own, clr, amt, arg, eg, el, pos, hgt, stk, sst, sev, sw, swm, srf), (ylim, ev, nI 0, rf, 0, yend, yans, nI e, lc, yres, yused, ycalls, yver, ykept, yop, ybs, len, st, cps, old, bef, ywm, wcp, ecp, mcp, rcp, evl, yms, ysf, ycl, yam, yar, ygv, yel, yat, ytp, stk), ⟨_, _, _, _, _, _, _, _, _, _, _, _, _, _, _, _, _, _, _, _, _, _, _, rfl, _, _, _, _, _, _, _, _, _, _, _, _, _, _, _, _, _, rfl, hCO, he⟩, ?_, ?_⟩
      · intro post n k hk hn hp
        obtain ⟨n', rfl⟩ : ∃ n', n = n' + 1 := ⟨n - 1, by omega⟩
        exact br_c (fun _ => hp) (fun _ => br_t (by decide) hp)
      · intro post x4 x5 x6 n hn hp
        obtain ⟨n', rfl⟩ : ∃ n', n = n' + 1 := ⟨n - 1, by omega⟩
        exact br_t (by decide) hp
    | succ W =>
      have hW6 : W + 1 ≤ 6 := hCO.2.1
      obtain ⟨⟨a, ha, ax, ay⟩, mx, ny, ⟨s, hs, sx, sy⟩⟩ := hCO.2.2.2.2.2 0 (by omega)
      have hCO1 : ce_CO ev wm xop xnum yop ybs len st ywm (ce_cp xms 0 20 (fun j => xms (j + 4))) (ce_cp yms 0 (4 * W) (fun j => yms (j + 4))) W := ⟨hCO.1, by omega, hCO.2.2.1, hCO.2.2.2.1, hCO.2.2.2.2.1, ce_MSdrop (by omega) hCO.2.2.2.2.2⟩
      have hcl : ce_CL (nI s) := Or.inr ⟨s, hs, rfl⟩
      by_cases hD : ce_DN st 0 (nI s) a (xms (4 * 0 + 1))
      · obtain ⟨e', u', v', hG, hx, hy⟩ := ih (e := e) (W := W) (u := (xlim, xps, xvn, xkc, ev, nI W, wm, rf, 0, ea, er, lr, lu, lc, xop, xnum, len, st, vers, evl, ce_cp xms 0 20 (fun j => xms (j + 4)), own, clr, amt, arg, eg, el, pos, hgt, stk, sst, sev, sw, swm, srf)) (v := (ylim, ev, nI W, rf, 0, 4, 0, nI e, lc, yres, yused, ycalls, yver, ykept, yop, ybs, len, st, cps, old, bef, ywm, wcp, ecp, mcp, rcp, evl, ce_cp yms 0 (4 * W) (fun j => yms (j + 4)), ysf, ycl, yam, yar, ygv, yel, yat, ytp, stk)) ⟨_, _, _, _, _, _, _, _, _, _, _, _, _, _, _, _, _, _, _, _, _, _, _, rfl, _, _, _, _, _, _, _, _, _, _, _, _, _, _, _, _, _, rfl, hCO1, by omega⟩ (by omega)
        refine ⟨e', u', v', hG, ?_, ?_⟩
        · intro post n k hk hn hp
          obtain ⟨n', rfl⟩ : ∃ n', n = n' + 1 := ⟨n - 1, by omega⟩
          exact br_f (nI_ge (b := 1000000) (by omega) (by decide)) (br_f (nI_nle (by omega) (by omega)) (nm_r ax (nm_e (nm_e (nm_r sx (xw_drop (xw_den (d := 0) (by omega) hcl ha (fun _ => br_f (by decide) (nm_r (nI_1 k) (hx post n' (k + 1) (by omega) (by omega) hp))) (fun z => absurd hD z))))))))
        · intro post x4 x5 x6 n hn hp
          obtain ⟨n', rfl⟩ : ∃ n', n = n' + 1 := ⟨n - 1, by omega⟩
          refine br_f (nI_nle (by omega) (by omega)) (yw_msg (by omega) ?_)
          rw [show yms 0 = nI a from ay, show yms 1 = xms (4 * 0 + 1) from mx.symm, show yms 3 = nI s from sy]
          exact yp_den hcl ha hCO.2.2.2.1 hD (hy post x4 x5 x6 n' (by omega) hp)
      · obtain ⟨e1, W1, u1, v1, hF, hw, px, py⟩ := ce_perf (lc := lc) (ar := xms (4 * 0 + 2)) (n := e) (rf := rf) hcl ha (by omega) hCO1 hD
        obtain ⟨ev1, wm1, rf1, ea1, er1, lc1, st1, evl1, xms1, own1, clr1, amt1, arg1, eg1, el1, pos1, hgt1, stk1, sst1, sev1, sw1, swm1, srf1, rfl, cps1, ywm1, wcp1, ecp1, mcp1, rcp1, yms1, ysf1, ycl1, yam1, yar1, ygv1, yel1, yat1, ytp1, rfl, hel1, hCO2, hr1⟩ := hF
        obtain ⟨e', u', v', hG, hx, hy⟩ := ih (e := e1) (W := W1) ⟨_, _, _, _, _, _, _, _, _, _, _, _, _, _, _, _, _, _, _, _, _, _, _, rfl, _, _, _, _, _, _, _, _, _, _, _, _, _, _, _, _, _, rfl, hCO2, by omega⟩ (by omega)
        refine ⟨e', u', v', hG, ?_, ?_⟩
        · intro post n k hk hn hp
          obtain ⟨n', rfl⟩ : ∃ n', n = n' + 1 := ⟨n - 1, by omega⟩
          exact br_f (nI_ge (b := 1000000) (by omega) (by decide)) (br_f (nI_nle (by omega) (by omega)) (nm_r ax (nm_e (nm_e (nm_r sx (xw_drop (xw_den (d := 0) (by omega) hcl ha (fun z => absurd z hD) (fun _ => br_t rfl (px _ (nm_r (nI_1 k) (hx post n' (k + 1) (by omega) (by omega) hp)))))))))))
        · intro post x4 x5 x6 n hn hp
          obtain ⟨n', rfl⟩ : ∃ n', n = n' + 1 := ⟨n - 1, by omega⟩
          refine br_f (nI_nle (by omega) (by omega)) (yw_msg (by omega) ?_)
          rw [show yms 0 = nI a from ay, show yms 1 = xms (4 * 0 + 1) from mx.symm, show yms 2 = xms (4 * 0 + 2) from ny.symm, show yms 3 = nI s from sy]
          exact py _ (hy post x4 x5 x6 n' (by omega) hp)
/-! versions -/
def ce_VR (p K : Nat) (vers st old : Nat → Int32) : Prop := p < 7 ∧ K ≤ 6 ∧ (∀ j, j < 30 → vers (30 * p + j) = st j) ∧ (∀ n, n < K → ∀ j, j < 30 → vers (30 * ((p + 6 - n) % 7) + j) = old (30 * n + j)) ∧ (∀ n, n < K → ce_BL (fun j => old (30 * n + j)))
def ce_k1 (K : Nat) : Nat := if 6 ≤ K then K else K + 1
def ce_ov (old bef : Nat → Int32) : Nat → Int32 := ce_cp (fun j => if 29 < j ∧ j < 180 then old (j - 30) else old j) 0 30 bef
theorem ce_ov0 {j : Nat} (h : j < 30) : ce_ov old bef j = bef j := ce_cpi0 h
theorem ce_ov1 {j : Nat} (h1 : 30 ≤ j) (h2 : j < 180) : ce_ov old bef j = old (j - 30) := by
  unfold ce_ov
  rw [ce_cpo (by omega)]
  exact if_pos (by omega)
theorem ce_VRadd {p K : Nat} {st' : Nat → Int32} (h : ce_VR p K vers st old) (hB : ce_BL st) (hb : ∀ j, j < 30 → bef j = st j) : ce_VR ((p + 1) % 7) (ce_k1 K) (ce_cp vers (30 * ((p + 1) % 7)) 30 st') st' (ce_ov old bef) := by
  obtain ⟨h1, h2, h3, h4, h5⟩ := h
  have hk : ce_k1 K ≤ 6 ∧ ce_k1 K ≤ K + 1 := by
    unfold ce_k1
    by_cases z : 6 ≤ K
    · rw [if_pos z]; omega
    · rw [if_neg z]; omega
  refine ⟨by omega, hk.1, fun j hj => ce_cpi' hj, ?_, ?_⟩
  · intro n hn j hj
    rw [ce_cpo (by omega)]
    cases n with
    | zero =>
      rw [show ((p + 1) % 7 + 6 - 0) % 7 = p by omega, show 30 * 0 + j = j by omega, ce_ov0 hj, h3 j hj, hb j hj]
    | succ n =>
      rw [show ((p + 1) % 7 + 6 - (n + 1)) % 7 = (p + 6 - n) % 7 by omega, ce_ov1 (by omega) (by omega), show 30 * (n + 1) + j - 30 = 30 * n + j by omega]
      exact h4 n (by omega) j hj
  · intro n hn
    cases n with
    | zero => exact ce_BLc hB (fun j hj => by rw [show 30 * 0 + j = j by omega, ce_ov0 hj, hb j hj])
    | succ n => exact ce_BLc (h5 n (by omega)) (fun j hj => by rw [ce_ov1 (by omega) (by omega), show 30 * (n + 1) + j - 30 = 30 * n + j by omega])
theorem xw_addv {post : SX → Prop} {p K : Nat} (hp7 : p < 7) (hK : K ≤ 6) (hp : post (xlim, nI ((p + 1) % 7), xvn + 1, nI (ce_k1 K), ev, wa, wm, rf, dp, ea, er, lr, lu, lc, xop, xnum, len, st, ce_cp vers (30 * ((p + 1) % 7)) 30 st, evl, xms, own, clr, amt, arg, eg, el, pos, hgt, stk, sst, sev, sw, swm, srf)) : wpX_addVersion post (xlim, nI p, xvn, nI K, ev, wa, wm, rf, dp, ea, er, lr, lu, lc, xop, xnum, len, st, vers, evl, xms, own, clr, amt, arg, eg, el, pos, hgt, stk, sst, sev, sw, swm, srf) := by
  unfold wpX_addVersion
  refine ⟨by decide, nm_r (show (nI p + 1) - (nI p + 1) / 7 * 7 = nI ((p + 1) % 7) from by rw [nI_1]; exact pk_rem (by omega) (by decide) (by decide)) ?_⟩
  refine loop_0 (fun n i s => wX_addVersion_15 post (xlim) (nI ((p + 1) % 7)) (xvn) (nI K) (ev) (wa) (wm) (rf) (dp) (ea) (er) (lr) (lu) (lc) n (nI i) (xop) (xnum) (len) (st) (s) (evl) (xms) (own) (clr) (amt) (arg) (eg) (el) (pos) (hgt) (stk) (sst) (sev) (sw) (swm) (srf)) (fun i s => s = ce_cp vers (30 * ((p + 1) % 7)) i st) 30 vers (ce_cp0 _ _ _).symm ?_ ?_
  · intro n s e
    subst e
    unfold ce_k1 at hp
    refine br_t (by decide) (nm_e (pk_le 6 K (fun z => ?_) (fun z => ?_)))
    · rw [if_pos z] at hp; exact hp
    · rw [if_neg (by omega)] at hp; exact nm_r (nI_1 K) hp
  · intro n i s hi e H
    subst e
    refine br_f (nI_ge (b := 30) hi (by decide)) ?_
    rw [ce_mR30, nI_add, ce_cl (t := i) (by omega), ce_cl (t := 30 * ((p + 1) % 7) + i) (by omega), nI_1 i]
    exact ⟨ce_in (by omega), ce_in (by omega), nm_r (ce_cps _ _ _ _) (nm_e (H _ rfl))⟩
theorem yw_newv {post : SY → Prop} {K : Nat} (hK : K ≤ 6) (hp : post (ylim, ev, wa, rf, dp, yend, yans, yrest, ybeg, yres, yused, ycalls, yver + 1, nI (ce_k1 K), yop, ybs, len, st, cps, ce_ov old bef, bef, ywm, wcp, ecp, mcp, rcp, evl, yms, ysf, ycl, yam, yar, ygv, yel, yat, ytp, stk)) : wpY_newVersion post (ylim, ev, wa, rf, dp, yend, yans, yrest, ybeg, yres, yused, ycalls, yver, nI K, yop, ybs, len, st, cps, old, bef, ywm, wcp, ecp, mcp, rcp, evl, yms, ysf, ycl, yam, yar, ygv, yel, yat, ytp, stk) := by
  unfold wpY_newVersion
  refine ⟨151, pk_loopD (fun n i s => wY_newVersion_4 post (ylim) (ev) (wa) (rf) (dp) (yend) (yans) (yrest) (ybeg) (yres) (yused) (ycalls) (yver) (nI K) n (nI (i + 29)) (yop) (ybs) (len) (st) (cps) (s) (bef) (ywm) (wcp) (ecp) (mcp) (rcp) (evl) (yms) (ysf) (ycl) (yam) (yar) (ygv) (yel) (yat) (ytp) (stk)) (fun i s => i ≤ 150 ∧ s = fun j => if i + 29 < j ∧ j < 180 then old (j - 30) else old j) ?_ ?_ 150 old ⟨by omega, ?_⟩⟩
  · intro n s e
    obtain ⟨_, rfl⟩ := e
    refine br_t (by decide) ?_
    refine loop_0 (fun n i s => wY_newVersion_33 post (ylim) (ev) (wa) (rf) (dp) (yend) (yans) (yrest) (ybeg) (yres) (yused) (ycalls) (yver) (nI K) n (nI i) (yop) (ybs) (len) (st) (cps) (s) (bef) (ywm) (wcp) (ecp) (mcp) (rcp) (evl) (yms) (ysf) (ycl) (yam) (yar) (ygv) (yel) (yat) (ytp) (stk)) (fun i s => s = ce_cp (fun j => if 29 < j ∧ j < 180 then old (j - 30) else old j) 0 i bef) 30 _ ?_ ?_ ?_
    · exact (ce_cp0 _ _ _).symm
    · intro n s e
      subst e
      unfold ce_k1 at hp
      refine br_t (by decide) (nm_e (pk_le 6 K (fun z => ?_) (fun z => ?_)))
      · rw [if_pos z] at hp; exact hp
      · rw [if_neg (by omega)] at hp; exact nm_r (nI_1 K) hp
    · intro n i s hi e H
      subst e
      refine br_f (nI_ge (b := 30) hi (by decide)) ?_
      rw [ce_cl (t := i) (by omega), nI_1 i]
      exact ⟨ce_in (by omega), ce_in (by omega), nm_r (ce_cps0 _ _ _) (nm_e (H _ rfl))⟩
  · intro n i s e H
    obtain ⟨hi, rfl⟩ := e
    have e1 : i + 1 + 29 = i + 30 := by omega
    rw [e1]
    refine br_f (nI_nlt (b := 30) (by omega) (by omega)) ?_
    rw [ce_s30, ce_cl (t := i) (by omega), ce_cl (t := i + 30) (by omega), show nI (i + 30) + (-1) = nI (i + 29) from pk_m1 (i + 29)]
    refine ⟨ce_in (by omega), ce_in (by omega), nm_e (nm_e (H _ ⟨by omega, ?_⟩))⟩
    funext j
    unfold upd
    by_cases z : j = i + 30
    · subst z
      rw [if_pos rfl]
      dsimp only
      rw [if_neg (by omega), if_pos (by omega)]; exact congrArg old (by omega)
    · rw [if_neg z]
      dsimp only
      by_cases z2 : i + 30 < j ∧ j < 180
      · rw [if_pos z2, if_pos (by omega)]
      · rw [if_neg z2, if_neg (by omega)]
  · funext j
    rw [if_neg (by omega)]
end
end
section
/-- between two calls -/
def i_Rel (_ : Nat) (u : SX) (v : SY) : Prop := ∃ (l p K E : Nat) (xvn wa wm rf ea er lr lu lc : Int32) (xop xnum len st vers evl xms own clr amt arg eg el pos hgt stk sst sev sw swm srf : Nat → Int32), u = (nI l, nI p, xvn, nI K, nI E, wa, wm, rf, 0, ea, er, lr, lu, lc, xop, xnum, len, st, vers, evl, xms, own, clr, amt, arg, eg, el, pos, hgt, stk, sst, sev, sw, swm, srf) ∧ ∃ (ywa yrf ydp yend yans yrest ybeg : Int32) (yop ybs cps old bef ywm wcp ecp mcp rcp yms ysf ycl yam yar ygv yel yat ytp : Nat → Int32), v = (nI l, nI E, ywa, yrf, ydp, yend, yans, yrest, ybeg, lr, lu, lc, xvn, nI K, yop, ybs, len, st, cps, old, bef, ywm, wcp, ecp, mcp, rcp, evl, yms, ysf, ycl, yam, yar, ygv, yel, yat, ytp, stk) ∧ l ≤ 400 ∧ E ≤ 20 ∧ ce_PG xop xnum yop ybs len ∧ ce_BL st ∧ ce_VR p K vers st old
theorem i_up {k : Nat} {u : SX} {v : SY} (h : i_Rel k u v) : i_Rel (k + 5) u v := h
section
variable {xlim xps xvn xkc ev wa wm rf dp ea er lr lu lc ylim yend yans yrest ybeg yres yused ycalls yver ykept : Int32} {xop xnum len st vers evl xms own clr amt arg eg el pos hgt stk sst sev sw swm srf yop ybs cps old bef ywm wcp ecp mcp rcp yms ysf ycl yam yar ygv yel yat ytp : Nat → Int32}
def ce_us (sp rf : Int32) : Int32 := if sp / 4 ≤ rf then sp - sp / 4 else sp - rf
theorem ce_us0 {x : Nat} (hx : x ≤ 1000) : ce_us (nI x) 0 = nI x := by
  unfold ce_us
  rw [show (4 : Int32) = nI 4 from rfl, pk_div (by omega) (by decide) (by decide)]
  by_cases h : nI (x / 4) ≤ 0
  · rw [if_pos h]
    have h2 : x / 4 = 0 := by
      have := (nI_leI (a := x / 4) (b := 0) (by omega) (by omega)).mp h
      omega
    rw [h2, nI_0, Int32.sub_zero]
  · rw [if_neg h, Int32.sub_zero]
theorem xw_113 {post : Int32 → SX → Prop} {x4 x5 x6 : Int32} (hp : post x6 (xlim, xps, xvn, xkc, ev, wa, wm, rf, dp, ea, er, lr, ce_us (x4 - x5) rf, lc, xop, xnum, len, st, vers, evl, xms, own, clr, amt, arg, eg, el, pos, hgt, stk, sst, sev, sw, swm, srf)) : wX_call_113 post x4 x5 x6 xlim xps xvn xkc ev wa wm rf dp ea er lr lu lc xop xnum len st vers evl xms own clr amt arg eg el pos hgt stk sst sev sw swm srf := by
  unfold wX_call_113 wpX_lessRefund
  unfold ce_us at hp
  refine ⟨by decide, nm_e (br_c (fun z => ?_) (fun z => ?_))⟩
  · rw [if_pos z] at hp; exact hp
  · rw [if_neg z] at hp; exact hp
theorem yw_162 {post : Int32 → SY → Prop} {x4 : Int32} (hp : post 0 (ylim, ev, wa, rf, dp, yend, yans, yrest, ybeg, yres, ce_us (x4 - yrest) rf, ybeg, yver, ykept, yop, ybs, len, st, cps, old, bef, ywm, wcp, ecp, mcp, rcp, evl, yms, ysf, ycl, yam, yar, ygv, yel, yat, ytp, stk)) : wY_call_162 post x4 0 (ylim) (ev) (wa) (rf) (dp) (yend) (yans) (yrest) (ybeg) (yres) (yused) (ycalls) (yver) (ykept) (yop) (ybs) (len) (st) (cps) (old) (bef) (ywm) (wcp) (ecp) (mcp) (rcp) (evl) (yms) (ysf) (ycl) (yam) (yar) (ygv) (yel) (yat) (ytp) (stk) := by
  unfold wY_call_162
  unfold ce_us at hp
  refine nm_e (br_t rfl ⟨by decide, br_c (fun z => ⟨by decide, nm_e ?_⟩) (fun z => nm_e ?_)⟩)
  · rw [if_pos z] at hp; exact hp
  · rw [if_neg z] at hp; exact hp
theorem yw_162n {post : Int32 → SY → Prop} {x4 x6 : Int32} (h6 : ¬ x6 = 0) (hp : post x6 (ylim, ev, wa, rf, dp, yend, yans, yrest, ybeg, yres, x4 - yrest, ybeg, yver, ykept, yop, ybs, len, st, cps, old, bef, ywm, wcp, ecp, mcp, rcp, evl, yms, ysf, ycl, yam, yar, ygv, yel, yat, ytp, stk)) : wY_call_162 post x4 x6 (ylim) (ev) (wa) (rf) (dp) (yend) (yans) (yrest) (ybeg) (yres) (yused) (ycalls) (yver) (ykept) (yop) (ybs) (len) (st) (cps) (old) (bef) (ywm) (wcp) (ecp) (mcp) (rcp) (evl) (yms) (ysf) (ycl) (yam) (yar) (ygv) (yel) (yat) (ytp) (stk) := by
  unfold wY_call_162
  exact nm_e (br_f h6 hp)
def ce_Yk (post : Int32 → SY → Prop) (x4 x5 : Int32) (v : SY) : Prop := match v with
  | (ylim, ev, wa, rf, dp, yend, yans, yrest, ybeg, yres, yused, ycalls, yver, ykept, yop, ybs, len, st, cps, old, bef, ywm, wcp, ecp, mcp, rcp, evl, yms, ysf, ycl, yam, yar, ygv, yel, yat, ytp, stk) => (yend = 0 → ∃ n132 : Nat, wY_call_132 post x4 x5 yend n132 (ylim) (ev) (wa) (rf) (dp) (yend) (yans) (yrest) (ybeg) (yans) (yused) (ycalls) (yver) (ykept) (yop) (ybs) (len) (st) (cps) (old) (bef) (ywm) (wcp) (ecp) (mcp) (rcp) (evl) (yms) (ysf) (ycl) (yam) (yar) (ygv) (yel) (yat) (ytp) (stk)) ∧ (¬ yend = 0 → wY_call_150 post x4 x5 yend (ylim) (ev) (wa) (rf) (dp) (yend) (yans) (yrest) (ybeg) (yans) (yused) (ycalls) (yver) (ykept) (yop) (ybs) (len) (st) (cps) (old) (bef) (ywm) (wcp) (ecp) (mcp) (rcp) (evl) (yms) (ysf) (ycl) (yam) (yar) (ygv) (yel) (yat) (ytp) (stk))
theorem yw_call {post : Int32 → SY → Prop} {l n a : Nat} {am ar : Int32} (ha : a < 6) (hn : n ≤ l) (hl : l ≤ 400) (hp : wpY_perform (ce_Yk post (nI n) ev) (nI l, 0, 0, 0, dp, yend, yans, yrest, 0, yres, yused, ycalls, yver, ykept, yop, ybs, len, st, cps, old, ce_cp bef 0 30 st, ce_cp ywm 0 24 (fun _ => 0), wcp, ecp, mcp, rcp, evl, yms, ysf, ycl, yam, yar, ygv, yel, yat, ytp, stk) (nI a) am ar (-1) (nI n)) : wpY_call post (nI l, ev, wa, rf, dp, yend, yans, yrest, ybeg, yres, yused, ycalls, yver, ykept, yop, ybs, len, st, cps, old, bef, ywm, wcp, ecp, mcp, rcp, evl, yms, ysf, ycl, yam, yar, ygv, yel, yat, ytp, stk) (nI a) am ar (nI n) := by
  unfold wpY_call
  refine yw_accT ha (br_f (by decide) (br_f (nI_pos (by omega)) (br_t (nI_le hn (by omega)) ?_)))
  refine loop_0 (fun n' i s => wY_call_32 post (nI a) am ar (nI n) ev (nI l) (ev) (wa) (rf) (dp) (yend) (yans) (yrest) (ybeg) (yres) (yused) (ycalls) (yver) (ykept) n' (nI i) (yop) (ybs) (len) (st) (cps) (old) (bef) (s) (wcp) (ecp) (mcp) (rcp) (evl) (yms) (ysf) (ycl) (yam) (yar) (ygv) (yel) (yat) (ytp) (stk)) (fun i s => s = ce_cp ywm 0 i (fun _ => 0)) 24 ywm (ce_cp0 _ _ _).symm ?_ ?_
  · intro n' s e
    subst e
    refine br_t (by decide) ?_
    refine loop_0 (fun n' i s => wY_call_56 post (nI a) am ar (nI n) ev (nI l) (ev) (wa) (rf) (dp) (yend) (yans) (yrest) (ybeg) (yres) (yused) (ycalls) (yver) (ykept) n' (nI i) (yop) (ybs) (len) (st) (cps) (old) (s) (ce_cp ywm 0 24 (fun _ => 0)) (wcp) (ecp) (mcp) (rcp) (evl) (yms) (ysf) (ycl) (yam) (yar) (ygv) (yel) (yat) (ytp) (stk)) (fun i s => s = ce_cp bef 0 i st) 30 bef (ce_cp0 _ _ _).symm ?_ ?_
    · intro n' s e
      subst e
      exact br_t (by decide) hp
    · intro n' i s hi e H
      subst e
      refine br_f (nI_ge (b := 30) hi (by decide)) ?_
      rw [ce_cl (t := i) (by omega), nI_1 i]
      exact ⟨ce_in (by omega), ce_in (by omega), nm_r (ce_cps0 _ _ _) (nm_e (H _ rfl))⟩
  · intro n' i s hi e H
    subst e
    refine br_f (nI_ge (b := 24) hi (by decide)) ?_
    rw [ce_cl (t := i) (by omega), nI_1 i]
    exact ⟨ce_in (by omega), nm_r (ce_cps0 ywm i (fun _ => 0)) (nm_e (H _ rfl))⟩
end
section
theorem i_vc_call {k : Nat} {u : SX} {v : SY} (I : i_Rel k u v) (hk : k + 5 ≤ 2561) (v1 : Int32) (v2 : Int32) (v3 : Int32) (v4 : Int32) : wpX_call (fun r u' => wpY_call (fun r' v' => r' = r ∧ i_Rel (k + 5) u' v') v v1 v2 v3 v4) u v1 v2 v3 v4 := by
  have I2 : i_Rel (k + 5) u v := I
  obtain ⟨l, p, K, E, xvn, wa, wm, rf, ea, er, lr, lu, lc, xop, xnum, len, st, vers, evl, xms, own, clr, amt, arg, eg, el, pos, hgt, stk, sst, sev, sw, swm, srf, rfl, ywa, yrf, ydp, yend, yans, yrest, ybeg, yop, ybs, cps, old, bef, ywm, wcp, ecp, mcp, rcp, yms, ysf, ycl, yam, yar, ygv, yel, yat, ytp, rfl, hl, hE, hPG, hBL, hVR⟩ := I
  unfold wpX_call
  rcases pk_ix v1 (n := 6) (by decide) with z | z | ⟨a, ha, rfl⟩
  · refine xw_accF (Or.inl z) (br_t rfl ?_)
    unfold wpY_call
    exact yw_accF (Or.inl z) (br_t rfl ⟨rfl, I2⟩)
  · refine xw_accF (Or.inr z) (br_t rfl ?_)
    unfold wpY_call
    exact yw_accF (Or.inr z) (br_t rfl ⟨rfl, I2⟩)
  refine xw_accT ha (br_f (by decide) ?_)
  by_cases h4 : v4 < 0
  · refine br_t h4 ?_
    unfold wpY_call
    exact yw_accT ha (br_f (by decide) (br_t h4 ⟨rfl, I2⟩))
  refine br_f h4 ?_
  by_cases h5 : v4 ≤ nI l
  case neg =>
    refine br_f h5 ?_
    unfold wpY_call
    exact yw_accT ha (br_f (by decide) (br_f h4 (br_f h5 ⟨rfl, I2⟩)))
  obtain ⟨n, hn, rfl⟩ := nI_of2 (n := l) (nI_toInt (by omega)) h4 h5
  refine br_t h5 (xw_den (d := 0) (by omega) (Or.inl rfl) ha (fun hD => br_f (by decide) ?_) (fun hD => br_t rfl ?_))
  · refine yw_call ha hn hl (yp_den (Or.inl rfl) ha hBL hD (br_f (by decide) ?_))
    unfold wY_call_150
    refine br_t rfl (yw_162n (by decide) ⟨rfl, ?_⟩)
    rw [Int32.sub_self]
    exact ⟨l, p, K, E, _, _, _, _, _, _, _, _, _, _, _, _, _, _, _, _, _, _, _, _, _, _, _, _, _, _, _, _, _, _, rfl, _, _, _, _, _, _, _, _, _, _, _, _, _, _, _, _, _, _, _, _, _, _, _, _, _, _, rfl, hl, hE, hPG, hBL, hVR⟩
  · have hCO : ce_CO 0 0 xop xnum yop ybs len st (ce_cp ywm 0 24 (fun _ => 0)) xms yms 0 := ⟨⟨0, by omega, rfl⟩, by omega, hPG, hBL, ce_WRc ce_WR0 (fun j hj => ce_cpi0 hj), fun i hi => absurd hi (by omega)⟩
    have hbef : ∀ j, j < 30 → ce_cp bef 0 30 st j = st j := fun j hj => ce_cpi0 hj
    obtain ⟨e', W', u', v', hF, hw, px, py⟩ := ce_perf (lc := 0) (ar := v3) (n := n) (rf := 0) (Or.inl rfl) ha (by omega) hCO hD
    obtain ⟨ev1, wm1, rf1, ea1, er1, lc1, st1, evl1, xms1, own1, clr1, amt1, arg1, eg1, el1, pos1, hgt1, stk1, sst1, sev1, sw1, swm1, srf1, rfl, cps1, ywm1, wcp1, ecp1, mcp1, rcp1, yms1, ysf1, ycl1, yam1, yar1, ygv1, yel1, yat1, ytp1, rfl, hel1, hCO2, hea, hund⟩ := hF
    by_cases h0 : ea1 = 0
    · subst h0
      obtain ⟨e2, u2, v2', hG, hx, hy⟩ := ce_msg (xlim := nI l) (xps := nI p) (xvn := xvn) (xkc := nI K) (lr := er1) (lu := 0) (vers := vers) (ylim := nI l) (yres := er1) (yused := lu) (ycalls := lc) (yver := xvn) (ykept := nI K) (old := old) (bef := ce_cp bef 0 30 st) (e' + W' + 1) (e := e') (W := W') ⟨ev1, wm1, rf1, 0, er1, lc1, st1, evl1, xms1, own1, clr1, amt1, arg1, eg1, el1, pos1, hgt1, stk1, sst1, sev1, sw1, swm1, srf1, rfl, 0, er1, cps1, ywm1, wcp1, ecp1, mcp1, rcp1, yms1, ysf1, ycl1, yam1, yar1, ygv1, yel1, yat1, ytp1, rfl, hCO2, by omega⟩ (by omega)
      obtain ⟨ev2, wm2, rf2, ea2, er2, lc2, st2, evl2, xms2, own2, clr2, amt2, arg2, eg2, el2, pos2, hgt2, stk2, sst2, sev2, sw2, swm2, srf2, rfl, yend2, yans2, cps2, ywm2, wcp2, ecp2, mcp2, rcp2, yms2, ysf2, ycl2, yam2, yar2, ygv2, yel2, yat2, ytp2, rfl, hCO3, he2⟩ := hG
      obtain ⟨N, hN⟩ : ∃ N, e' + W' + 1 < N := ⟨_, Nat.lt_succ_self _⟩
      refine px _ (br_t rfl ?_)
      unfold wpX_runMessages
      refine ⟨N, hx _ N 0 (by omega) hN ?_⟩
      refine xw_addv hVR.1 hVR.2.1 (xw_113 ?_)
      refine yw_call ha hn hl (py _ (br_t rfl ⟨N, hy _ _ _ _ N hN (yw_newv hVR.2.1 ?_)⟩))
      unfold ce_Y150 wY_call_150
      refine br_f (by decide) (yw_162 ⟨rfl, ?_⟩)
      obtain ⟨⟨E2, hE2, rfl⟩, _, hPG2, hBL2, _, _⟩ := hCO3
      exact ⟨l, (p + 1) % 7, ce_k1 K, E2, _, _, _, _, _, _, _, _, _, _, _, _, _, _, _, _, _, _, _, _, _, _, _, _, _, _, _, _, _, _, rfl, _, _, _, _, _, _, _, _, _, _, _, _, _, _, _, _, _, _, _, _, _, _, _, _, _, _, rfl, hl, hE2, hPG2, hBL2, ce_VRadd hVR hBL hbef⟩
    · refine px _ (br_f h0 (xw_113 ?_))
      refine yw_call ha hn hl (py _ (br_f h0 ?_))
      unfold wY_call_150
      refine br_f (fun z => by rcases hea with q | q | q | q <;> (rw [q] at z; revert z; decide)) (yw_162n h0 ⟨rfl, ?_⟩)
      obtain ⟨hr0, hst0⟩ := hund h0
      subst hr0
      obtain ⟨⟨E2, hE2, rfl⟩, _, hPG2, hBL2, _, _⟩ := hCO2
      rw [pk_sub (by omega), ce_us0 (by omega)]
      exact ⟨l, p, K, E2, _, _, _, _, _, _, _, _, _, _, _, _, _, _, _, _, _, _, _, _, _, _, _, _, _, _, _, _, _, _, rfl, _, _, _, _, _, _, _, _, _, _, _, _, _, _, _, _, _, _, _, _, _, _, _, _, _, _, rfl, hl, hE2, hPG2, hBL2, hVR.1, hVR.2.1, fun j hj => (hVR.2.2.1 j hj).trans (hst0 j hj).symm, hVR.2.2.2⟩
end
end
section
section
variable {xlim xps xvn xkc ev wa wm rf dp ea er lr lu lc ylim yend yans yrest ybeg yres yused ycalls yver ykept : Int32} {xop xnum len st vers evl xms own clr amt arg eg el pos hgt stk sst sev sw swm srf yop ybs cps old bef ywm wcp ecp mcp rcp yms ysf ycl yam yar ygv yel yat ytp : Nat → Int32}
theorem ce_nm6 {a L L' : Nat} (h : nI L = nI L') (h1 : L ≤ 24) (h2 : L' ≤ 24) : L = L' := (nI_eq (by omega) (by omega)).mp h
theorem ce_by : ∀ k, k < 24 → (nI k).toInt8.toInt32 = nI k := by decide +kernel
theorem ce_PGput {k L : Nat} {b : Int32} (h : ce_PG xop xnum yop ybs len) (hL : len 6 = nI L) (hL4 : L < 24) (hk : k < 24) : ce_PG (upd xop (144 + L) (nI k)) (upd xnum (144 + L) b) (upd yop (144 + L) (nI k)) (upd ybs (144 + L) b) (upd len 6 (nI (L + 1))) := by
  intro a ha
  by_cases e : a = 6
  · subst e
    obtain ⟨L', hl', hlen', hp⟩ := h 6 (by omega)
    have : L = L' := (nI_eq (by omega) (by omega)).mp (hL.symm.trans hlen')
    subst this
    refine ⟨L + 1, by omega, pk_us, ?_⟩
    intro i hi
    by_cases e2 : i = L
    · subst e2
      rw [show 24 * 6 + i = 144 + i by omega]
      exact ⟨⟨k, hk, pk_us, pk_us⟩, pk_us.trans pk_us.symm⟩
    · rw [pk_un (by omega), pk_un (by omega), pk_un (by omega), pk_un (by omega)]
      exact hp i (by omega)
  · obtain ⟨L', hl', hlen', hp⟩ := h a ha
    refine ⟨L', hl', (pk_un e).trans hlen', ?_⟩
    intro i hi
    rw [pk_un (by omega), pk_un (by omega), pk_un (by omega), pk_un (by omega)]
    exact hp i hi
theorem ce_PG0 (h : ce_PG xop xnum yop ybs len) : ce_PG xop xnum yop ybs (upd len 6 0) := by
  intro a ha
  by_cases e : a = 6
  · subst e
    exact ⟨0, by omega, pk_us, fun i hi => absurd hi (by omega)⟩
  · obtain ⟨L', hl', hlen', hp⟩ := h a ha
    exact ⟨L', hl', (pk_un e).trans hlen', hp⟩
theorem ce_PGdep {a L : Nat} (h : ce_PG xop xnum yop ybs len) (ha : a < 6) (hL : len 6 = nI L) (hL4 : L ≤ 24) : ce_PG (ce_cp xop (24 * a) 24 (fun j => xop (144 + j))) (ce_cp xnum (24 * a) 24 (fun j => xnum (144 + j))) (ce_cp yop (24 * a) L (fun j => yop (144 + j))) (ce_cp ybs (24 * a) L (fun j => ybs (144 + j))) (upd (upd len 6 0) a (nI L)) := by
  obtain ⟨L6, hl6, hlen6, hp6⟩ := h 6 (by omega)
  have : L = L6 := (nI_eq (by omega) (by omega)).mp (hL.symm.trans hlen6)
  subst this
  intro a' ha'
  by_cases e : a' = a
  · subst e
    refine ⟨L, hL4, pk_us, ?_⟩
    intro i hi
    rw [ce_cpi' (f := xop) (by omega), ce_cpi' (f := yop) hi, ce_cpi' (f := xnum) (by omega), ce_cpi' (f := ybs) hi]
    exact hp6 i hi
  · by_cases e6 : a' = 6
    · subst e6
      exact ⟨0, by omega, (pk_un e).trans pk_us, fun i hi => absurd hi (by omega)⟩
    · obtain ⟨L', hl', hlen', hp⟩ := h a' ha'
      refine ⟨L', hl', ((pk_un e).trans (pk_un e6)).trans hlen', ?_⟩
      intro i hi
      rw [ce_cpo (by omega), ce_cpo (by omega), ce_cpo (by omega), ce_cpo (by omega)]
      exact hp i hi
theorem xw_dep {post : Int32 → SX → Prop} {a L : Nat} (ha : a < 6) (hL : len 6 = nI L) (h0 : 0 < L) (hL4 : L ≤ 24) (hp : post (nI L) (xlim, xps, xvn, xkc, ev, wa, wm, rf, dp, ea, er, lr, lu, lc, ce_cp xop (24 * a) 24 (fun j => xop (144 + j)), ce_cp xnum (24 * a) 24 (fun j => xnum (144 + j)), upd (upd len 6 0) a (nI L), st, vers, evl, xms, own, clr, amt, arg, eg, el, pos, hgt, stk, sst, sev, sw, swm, srf)) : wpX_deploy post (xlim, xps, xvn, xkc, ev, wa, wm, rf, dp, ea, er, lr, lu, lc, xop, xnum, len, st, vers, evl, xms, own, clr, amt, arg, eg, el, pos, hgt, stk, sst, sev, sw, swm, srf) (nI a) := by
  unfold wpX_deploy
  refine nm_r hL (nm_e (xw_accT ha (br_f (by decide) (br_f (nI_ne0 h0 (by omega)) ?_))))
  refine loop_0 (σ := (Nat → Int32) × (Nat → Int32)) (fun n i s => wX_deploy_31 post (nI a) (nI L) (xlim) (xps) (xvn) (xkc) (ev) (wa) (wm) (rf) (dp) (ea) (er) (lr) (lu) (lc) n (nI i) (s.1) (s.2) (upd len 6 0) (st) (vers) (evl) (xms) (own) (clr) (amt) (arg) (eg) (el) (pos) (hgt) (stk) (sst) (sev) (sw) (swm) (srf)) (fun i s => s.1 = ce_cp xop (24 * a) i (fun j => xop (144 + j)) ∧ s.2 = ce_cp xnum (24 * a) i (fun j => xnum (144 + j))) 24 (xop, xnum) ⟨(ce_cp0 _ _ _).symm, (ce_cp0 _ _ _).symm⟩ ?_ ?_
  · intro n s e
    obtain ⟨s1, s2⟩ := s
    obtain ⟨rfl, rfl⟩ := e
    refine br_t (by decide) ?_
    rw [ce_cl (t := a) (by omega)]
    exact ⟨ce_in (by omega), nm_e hp⟩
  · intro n i s hi e H
    obtain ⟨s1, s2⟩ := s
    obtain ⟨rfl, rfl⟩ := e
    refine br_f (nI_ge (b := 24) hi (by decide)) ?_
    dsimp only
    rw [ce_144, ce_mR24, nI_add, ce_cl (t := 144 + i) (by omega), ce_cl (t := 24 * a + i) (by omega), nI_1 i, ce_cpo (by omega), ce_cpo (by omega)]
    exact ⟨ce_in (by omega), ce_in (by omega), nm_r (ce_cps xop (24 * a) i (fun j => xop (144 + j))) ⟨ce_in (by omega), ce_in (by omega), nm_r (ce_cps xnum (24 * a) i (fun j => xnum (144 + j))) (nm_e (H (_, _) ⟨rfl, rfl⟩))⟩⟩
theorem yw_dep {post : Int32 → SY → Prop} {a L : Nat} (ha : a < 6) (hL : len 6 = nI L) (h0 : 0 < L) (hL4 : L ≤ 24) (hb : ∀ i, i < L → ∃ k, k < 24 ∧ yop (144 + i) = nI k) (hp : post (nI L) (ylim, ev, wa, rf, dp, yend, yans, yrest, ybeg, yres, yused, ycalls, yver, ykept, ce_cp yop (24 * a) L (fun j => yop (144 + j)), ce_cp ybs (24 * a) L (fun j => ybs (144 + j)), upd (upd len 6 0) a (nI L), st, cps, old, bef, ywm, wcp, ecp, mcp, rcp, evl, yms, ysf, ycl, yam, yar, ygv, yel, yat, ytp, stk)) : wpY_deploy post (ylim, ev, wa, rf, dp, yend, yans, yrest, ybeg, yres, yused, ycalls, yver, ykept, yop, ybs, len, st, cps, old, bef, ywm, wcp, ecp, mcp, rcp, evl, yms, ysf, ycl, yam, yar, ygv, yel, yat, ytp, stk) (nI a) := by
  unfold wpY_deploy
  refine nm_r hL (nm_e (yw_accT ha (br_f (by decide) (br_f (nI_ne0 h0 (by omega)) ?_))))
  refine loop_0 (σ := (Nat → Int32) × (Nat → Int32)) (fun n i s => wY_deploy_31 post (nI a) (nI L) (ylim) (ev) (wa) (rf) (dp) (yend) (yans) (yrest) (ybeg) (yres) (yused) (ycalls) (yver) (ykept) n (nI i) (s.1) (s.2) (upd len 6 0) (st) (cps) (old) (bef) (ywm) (wcp) (ecp) (mcp) (rcp) (evl) (yms) (ysf) (ycl) (yam) (yar) (ygv) (yel) (yat) (ytp) (stk)) (fun i s => s.1 = ce_cp yop (24 * a) i (fun j => yop (144 + j)) ∧ s.2 = ce_cp ybs (24 * a) i (fun j => ybs (144 + j))) L (yop, ybs) ⟨(ce_cp0 _ _ _).symm, (ce_cp0 _ _ _).symm⟩ ?_ ?_
  · intro n s e
    obtain ⟨s1, s2⟩ := s
    obtain ⟨rfl, rfl⟩ := e
    refine br_t (nI_le (Nat.le_refl L) (by omega)) ?_
    rw [ce_cl (t := a) (by omega)]
    exact ⟨ce_in (by omega), nm_e hp⟩
  · intro n i s hi e H
    obtain ⟨s1, s2⟩ := s
    obtain ⟨rfl, rfl⟩ := e
    refine br_f (nI_ge hi (by omega)) ?_
    obtain ⟨k, hk, ek⟩ := hb i hi
    have en : vp_nar .byte (yop (144 + i)) = yop (144 + i) := by rw [ek, vp_nar_byte, ce_by k hk]
    dsimp only
    rw [ce_144, ce_mL24, nI_add, ce_cl (t := 144 + i) (by omega), ce_cl (t := 24 * a + i) (by omega), nI_1 i, ce_cpo (by omega), ce_cpo (by omega), en]
    exact ⟨ce_in (by omega), ce_in (by omega), nm_r (ce_cps yop (24 * a) i (fun j => yop (144 + j))) ⟨ce_in (by omega), ce_in (by omega), nm_r (ce_cps ybs (24 * a) i (fun j => ybs (144 + j))) (nm_e (H (_, _) ⟨rfl, rfl⟩))⟩⟩
/-! what is past -/
def ce_pv (st old : Nat → Int32) (n j : Nat) : Int32 := if n = 0 then st j else old (30 * (n - 1) + j)
theorem ce_VRpv {p K n j : Nat} (h : ce_VR p K vers st old) (hn : n ≤ K) (hj : j < 30) : vers (30 * ((p + 7 - n) % 7) + j) = ce_pv st old n j := by
  obtain ⟨h1, h2, h3, h4, h5⟩ := h
  unfold ce_pv
  by_cases e : n = 0
  · rw [if_pos e, e, show (p + 7 - 0) % 7 = p by omega]; exact h3 j hj
  · rw [if_neg e, show (p + 7 - n) % 7 = (p + 6 - (n - 1)) % 7 by omega]
    exact h4 (n - 1) (by omega) j hj
theorem xw_slot {post : Int32 → Prop} {p n : Nat} (hp7 : p < 7) (hn : n ≤ 6) (hp : post (nI ((p + 7 - n) % 7))) : wpX_slotOf post (xlim, nI p, xvn, xkc, ev, wa, wm, rf, dp, ea, er, lr, lu, lc, xop, xnum, len, st, vers, evl, xms, own, clr, amt, arg, eg, el, pos, hgt, stk, sst, sev, sw, swm, srf) (nI n) := by
  unfold wpX_slotOf
  refine ⟨by decide, ?_⟩
  rw [ce_a7, pk_sub (by omega), show (7 : Int32) = nI 7 from rfl, pk_rem (by omega) (by decide) (by decide)]
  exact hp
theorem yw_past {post : Int32 → Prop} {K n a c : Nat} (hK : K ≤ 6) (hn : n ≤ K) (ha : a < 6) (hc : c < 5) (hp : post (ce_pv st old n (5 * a + c))) : wpY_past post (ylim, ev, wa, rf, dp, yend, yans, yrest, ybeg, yres, yused, ycalls, yver, nI K, yop, ybs, len, st, cps, old, bef, ywm, wcp, ecp, mcp, rcp, evl, yms, ysf, ycl, yam, yar, ygv, yel, yat, ytp, stk) (nI n) (nI a) (nI c) := by
  unfold wpY_past
  unfold ce_pv at hp
  refine br_f (nI_pos (by omega)) (br_f (nI_nlt hn (by omega)) (yw_accT ha (br_f (by decide) (br_f (nI_pos (by omega)) (br_t (nI_le (b := 4) (by omega) (by decide)) (pk_eq n 0 (fun z => ?_) (fun z => ?_)))))))
  · rw [if_pos z] at hp
    rw [ce_mL5, nI_add, ce_cl (by omega)]
    exact ⟨ce_in (by omega), hp⟩
  · rw [if_neg z] at hp
    obtain ⟨m, rfl⟩ : ∃ m, n = m + 1 := ⟨n - 1, by omega⟩
    rw [show m + 1 - 1 = m by omega] at hp
    rw [ce_s1, ce_mL30, ce_mL5, nI_add, nI_add, ce_cl (by omega)]
    rw [show 30 * m + (5 * a + c) = 30 * m + 5 * a + c by omega] at hp
    exact ⟨ce_in (by omega), hp⟩
theorem yw_pastF {post : Int32 → Prop} {K : Nat} {x y z : Int32} (h : x < 0 ∨ nI K < x ∨ (y < 0 ∨ nI 6 ≤ y) ∨ (z < 0 ∨ nI 5 ≤ z)) (hp : post 0) : wpY_past post (ylim, ev, wa, rf, dp, yend, yans, yrest, ybeg, yres, yused, ycalls, yver, nI K, yop, ybs, len, st, cps, old, bef, ywm, wcp, ecp, mcp, rcp, evl, yms, ysf, ycl, yam, yar, ygv, yel, yat, ytp, stk) x y z := by
  unfold wpY_past
  refine br_c (fun _ => hp) (fun n1 => br_c (fun _ => hp) (fun n2 => ?_))
  rcases pk_ix y (n := 6) (by decide) with q | q | ⟨j, hj, rfl⟩
  · exact yw_accF (Or.inl q) (br_t rfl hp)
  · exact yw_accF (Or.inr q) (br_t rfl hp)
  · refine yw_accT hj (br_f (by decide) (br_c (fun _ => hp) (fun n3 => br_f ?_ hp)))
    rcases h with q | q | (q | q) | (q | q)
    · exact absurd q n1
    · exact absurd q n2
    · exact absurd q (nI_pos (by omega))
    · exact absurd q (nI_ge hj (by decide))
    · exact absurd q n3
    · intro w
      exact absurd (Int32.le_trans q w) (by decide)
/-! digest -/
def ce_hin (g : Nat → Int32) (h : Int64) : Nat → Int64
  | 0 => h
  | k + 1 => ce_hin g h k * 31 + (g k).toInt64
def ce_ho (f : Nat → Int32) : Nat → Int64
  | 0 => 1
  | a + 1 => ce_hin (fun k => f (5 * a + k)) (ce_ho f a * 31 + (f (5 * a + 4)).toInt64) 4
theorem xw_dig {post : Int64 → Prop} {B : Nat} {f : Nat → Int32} (hB : B + 30 ≤ 210) (hf : ∀ j, j < 30 → vers (B + j) = f j) (hp : post (ce_ho f 6)) : ∃ n, wX_digest_28 post (nI B) xlim xps xvn xkc ev wa wm rf dp ea er lr lu lc xop xnum len st vers evl xms own clr amt arg eg el pos hgt stk sst sev sw swm srf n 1 0 := by
  refine loop_0 (σ := Int64) (fun n i s => wX_digest_28 post (nI B) xlim xps xvn xkc ev wa wm rf dp ea er lr lu lc xop xnum len st vers evl xms own clr amt arg eg el pos hgt stk sst sev sw swm srf n s (nI i)) (fun i s => s = ce_ho f i) 6 1 rfl ?_ ?_
  · intro n s e
    subst e
    exact br_t (by decide) hp
  · intro n i s hi e H
    subst e
    refine br_f (nI_ge (b := 6) hi (by decide)) (nm_r (show nI B + nI i * 5 = nI (B + 5 * i) from by rw [ce_mR5, nI_add]) ?_)
    rw [ce_a4, ce_cl (by omega), show B + 5 * i + 4 = B + (5 * i + 4) by omega, hf _ (by omega)]
    refine ⟨ce_in (by omega), nm_e ?_⟩
    refine loop_0 (σ := Int64) (fun n' x s => wX_digest_63 post (wX_digest_28 post (nI B) xlim xps xvn xkc ev wa wm rf dp ea er lr lu lc xop xnum len st vers evl xms own clr amt arg eg el pos hgt stk sst sev sw swm srf n) (nI B) (nI i) (nI (B + 5 * i)) xlim xps xvn xkc ev wa wm rf dp ea er lr lu lc xop xnum len st vers evl xms own clr amt arg eg el pos hgt stk sst sev sw swm srf n' s (nI x)) (fun x s => s = ce_hin (fun k => f (5 * i + k)) (ce_ho f i * 31 + (f (5 * i + 4)).toInt64) x) 4 _ rfl ?_ ?_
    · intro n' s e
      subst e
      exact br_t (by decide) (nm_r (nI_1 i) (H _ rfl))
    · intro n' x s hx e H2
      subst e
      refine br_f (nI_ge (b := 4) hx (by decide)) ?_
      rw [nI_add, ce_cl (by omega), show B + 5 * i + x = B + (5 * i + x) by omega, hf _ (by omega)]
      exact ⟨ce_in (by omega), nm_e (nm_r (nI_1 x) (H2 _ rfl))⟩
theorem yw_dig {post : Int64 → Prop} {K n : Nat} (hK : K ≤ 6) (hn : n ≤ K) (hp : post (ce_ho (ce_pv st old n) 6)) : ∃ n', wY_digest_19 post (nI n) (ylim) (ev) (wa) (rf) (dp) (yend) (yans) (yrest) (ybeg) (yres) (yused) (ycalls) (yver) (nI K) (yop) (ybs) (len) (st) (cps) (old) (bef) (ywm) (wcp) (ecp) (mcp) (rcp) (evl) (yms) (ysf) (ycl) (yam) (yar) (ygv) (yel) (yat) (ytp) (stk) n' 1 0 := by
  refine loop_0 (σ := Int64) (fun n' i s => wY_digest_19 post (nI n) (ylim) (ev) (wa) (rf) (dp) (yend) (yans) (yrest) (ybeg) (yres) (yused) (ycalls) (yver) (nI K) (yop) (ybs) (len) (st) (cps) (old) (bef) (ywm) (wcp) (ecp) (mcp) (rcp) (evl) (yms) (ysf) (ycl) (yam) (yar) (ygv) (yel) (yat) (ytp) (stk) n' s (nI i)) (fun i s => s = ce_ho (ce_pv st old n) i) 6 1 rfl ?_ ?_
  · intro n' s e
    subst e
    exact br_t (by decide) hp
  · intro n1 i s hi e H
    subst e
    refine br_f (nI_ge (b := 6) hi (by decide)) (yw_past (c := 4) hK hn hi (by omega) (nm_e ?_))
    refine loop_0 (σ := Int64) (fun n' x s => wY_digest_45 post (wY_digest_19 post (nI n) (ylim) (ev) (wa) (rf) (dp) (yend) (yans) (yrest) (ybeg) (yres) (yused) (ycalls) (yver) (nI K) (yop) (ybs) (len) (st) (cps) (old) (bef) (ywm) (wcp) (ecp) (mcp) (rcp) (evl) (yms) (ysf) (ycl) (yam) (yar) (ygv) (yel) (yat) (ytp) (stk) n1) (nI n) (nI i) (ylim) (ev) (wa) (rf) (dp) (yend) (yans) (yrest) (ybeg) (yres) (yused) (ycalls) (yver) (nI K) (yop) (ybs) (len) (st) (cps) (old) (bef) (ywm) (wcp) (ecp) (mcp) (rcp) (evl) (yms) (ysf) (ycl) (yam) (yar) (ygv) (yel) (yat) (ytp) (stk) n' s (nI x)) (fun x s => s = ce_hin (fun k => ce_pv st old n (5 * i + k)) (ce_ho (ce_pv st old n) i * 31 + (ce_pv st old n (5 * i + 4)).toInt64) x) 4 _ rfl ?_ ?_
    · intro n' s e
      subst e
      exact br_t (by decide) (nm_r (nI_1 i) (H _ rfl))
    · intro n' x s hx e H2
      subst e
      exact br_f (nI_ge (b := 4) hx (by decide)) (yw_past hK hn hi (by omega) (nm_e (nm_r (nI_1 x) (H2 _ rfl))))
/-! back -/
theorem xw_bck {post : Int32 → SX → Prop} {p K n : Nat} (hp7 : p < 7) (hn1 : 1 ≤ n) (hn : n ≤ K) (hK : K ≤ 6) (hp : post (xvn - nI n) (xlim, nI ((p + 7 - n) % 7), xvn - nI n, nI (K - n), ev, wa, wm, rf, dp, ea, er, lr, lu, lc, xop, xnum, len, ce_cp st 0 30 (fun j => vers (30 * ((p + 7 - n) % 7) + j)), vers, evl, xms, own, clr, amt, arg, eg, el, pos, hgt, stk, sst, sev, sw, swm, srf)) : wpX_back post (xlim, nI p, xvn, nI K, ev, wa, wm, rf, dp, ea, er, lr, lu, lc, xop, xnum, len, st, vers, evl, xms, own, clr, amt, arg, eg, el, pos, hgt, stk, sst, sev, sw, swm, srf) (nI n) := by
  unfold wpX_back
  refine br_f (nI_nlt (b := 1) hn1 (by omega)) (br_t (nI_le hn (by omega)) (xw_slot hp7 (by omega) ?_))
  refine loop_0 (fun m i s => wX_back_26 post (nI n) (xlim) (nI ((p + 7 - n) % 7)) (xvn) (nI K) (ev) (wa) (wm) (rf) (dp) (ea) (er) (lr) (lu) (lc) m (nI i) (xop) (xnum) (len) (s) (vers) (evl) (xms) (own) (clr) (amt) (arg) (eg) (el) (pos) (hgt) (stk) (sst) (sev) (sw) (swm) (srf)) (fun i s => s = ce_cp st 0 i (fun j => vers (30 * ((p + 7 - n) % 7) + j))) 30 st (ce_cp0 _ _ _).symm ?_ ?_
  · intro m s e
    subst e
    exact br_t (by decide) (nm_r (pk_sub hn) (nm_e hp))
  · intro m i s hi e H
    subst e
    refine br_f (nI_ge (b := 30) hi (by decide)) ?_
    rw [ce_mR30, nI_add, ce_cl (t := i) (by omega), ce_cl (t := 30 * ((p + 7 - n) % 7) + i) (by omega), nI_1 i]
    exact ⟨ce_in (by omega), ce_in (by omega), nm_r (ce_cps0 st i (fun j => vers (30 * ((p + 7 - n) % 7) + j))) (nm_e (H _ rfl))⟩
theorem yw_bck {post : Int32 → SY → Prop} {K n : Nat} (hn1 : 1 ≤ n) (hn : n ≤ K) (hK : K ≤ 6) (hp : post (yver - nI n) (ylim, ev, wa, rf, dp, yend, yans, yrest, ybeg, yres, yused, ycalls, yver - nI n, nI (K - n), yop, ybs, len, ce_cp st 0 30 (fun j => old (30 * (n - 1) + j)), cps, ce_cp old 0 (180 - 30 * n) (fun j => old (j + 30 * n)), bef, ywm, wcp, ecp, mcp, rcp, evl, yms, ysf, ycl, yam, yar, ygv, yel, yat, ytp, stk)) : wpY_back post (ylim, ev, wa, rf, dp, yend, yans, yrest, ybeg, yres, yused, ycalls, yver, nI K, yop, ybs, len, st, cps, old, bef, ywm, wcp, ecp, mcp, rcp, evl, yms, ysf, ycl, yam, yar, ygv, yel, yat, ytp, stk) (nI n) := by
  unfold wpY_back
  refine br_f (nI_nlt (b := 1) hn1 (by omega)) (br_t (nI_le hn (by omega)) ?_)
  refine loop_0 (fun m i s => wY_back_17 post (nI n) (ylim) (ev) (wa) (rf) (dp) (yend) (yans) (yrest) (ybeg) (yres) (yused) (ycalls) (yver) (nI K) m (nI i) (yop) (ybs) (len) (s) (cps) (old) (bef) (ywm) (wcp) (ecp) (mcp) (rcp) (evl) (yms) (ysf) (ycl) (yam) (yar) (ygv) (yel) (yat) (ytp) (stk)) (fun i s => s = ce_cp st 0 i (fun j => old (30 * (n - 1) + j))) 30 st (ce_cp0 _ _ _).symm ?_ ?_
  · intro m s e
    subst e
    refine br_t (by decide) ?_
    have e180 : (180 : Int32) - 30 * nI n = nI (180 - 30 * n) := by rw [ce_mL30, show (180 : Int32) = nI 180 from rfl, pk_sub (by omega)]
    refine loop_0 (fun m i s => wY_back_50 post (nI n) (ylim) (ev) (wa) (rf) (dp) (yend) (yans) (yrest) (ybeg) (yres) (yused) (ycalls) (yver) (nI K) m (nI i) (yop) (ybs) (len) (ce_cp st 0 30 (fun j => old (30 * (n - 1) + j))) (cps) (s) (bef) (ywm) (wcp) (ecp) (mcp) (rcp) (evl) (yms) (ysf) (ycl) (yam) (yar) (ygv) (yel) (yat) (ytp) (stk)) (fun i s => s = ce_cp old 0 i (fun j => old (j + 30 * n))) (180 - 30 * n) old (ce_cp0 _ _ _).symm ?_ ?_
    · intro m s e
      subst e
      refine br_t ?_ (nm_r (pk_sub hn) (nm_e hp))
      rw [e180]; exact nI_le (Nat.le_refl _) (by omega)
    · intro m i s hi e H
      subst e
      refine br_f ?_ ?_
      · rw [e180]; exact nI_ge hi (by omega)
      · rw [ce_mL30, nI_add, ce_cl (t := i) (by omega), ce_cl (t := i + 30 * n) (by omega), nI_1 i, ce_cpo (by omega)]
        exact ⟨ce_in (by omega), ce_in (by omega), nm_r (ce_cps0 old i (fun j => old (j + 30 * n))) (nm_e (H _ rfl))⟩
  · intro m i s hi e H
    subst e
    refine br_f (nI_ge (b := 30) hi (by decide)) ?_
    have e1 : 30 * (nI n - 1) + nI i = nI (30 * (n - 1) + i) := by rw [show (1 : Int32) = nI 1 from rfl, pk_sub hn1, ce_mL30, nI_add]
    rw [e1, ce_cl (t := i) (by omega), ce_cl (t := 30 * (n - 1) + i) (by omega), nI_1 i]
    exact ⟨ce_in (by omega), ce_in (by omega), nm_r (ce_cps0 st i (fun j => old (30 * (n - 1) + j))) (nm_e (H _ rfl))⟩
theorem ce_VRbck {p K n : Nat} (h : ce_VR p K vers st old) (hn1 : 1 ≤ n) (hn : n ≤ K) : ce_VR ((p + 7 - n) % 7) (K - n) vers (ce_cp st 0 30 (fun j => vers (30 * ((p + 7 - n) % 7) + j))) (ce_cp old 0 (180 - 30 * n) (fun j => old (j + 30 * n))) := by
  obtain ⟨h1, h2, h3, h4, h5⟩ := h
  refine ⟨by omega, by omega, fun j hj => (ce_cpi0 (f := st) (g := fun j => vers (30 * ((p + 7 - n) % 7) + j)) hj).symm, ?_, ?_⟩
  · intro m hm j hj
    rw [ce_cpi0 (by omega), show ((p + 7 - n) % 7 + 6 - m) % 7 = (p + 6 - (m + n)) % 7 by omega, show 30 * m + j + 30 * n = 30 * (m + n) + j by omega]
    exact h4 (m + n) (by omega) j hj
  · intro m hm
    exact ce_BLc (h5 (m + n) (by omega)) (fun j hj => by rw [ce_cpi0 (by omega), show 30 * m + j + 30 * n = 30 * (m + n) + j by omega])
end
end
section
theorem ce_cases {C : SX → SY → Prop} {k : Nat} {u : SX} {v : SY} (I : i_Rel k u v) (H : ∀ (l p K E : Nat) (xvn wa wm rf ea er lr lu lc : Int32) (xop xnum len st vers evl xms own clr amt arg eg el pos hgt stk sst sev sw swm srf : Nat → Int32) (ywa yrf ydp yend yans yrest ybeg : Int32) (yop ybs cps old bef ywm wcp ecp mcp rcp yms ysf ycl yam yar ygv yel yat ytp : Nat → Int32), l ≤ 400 → E ≤ 20 → ce_PG xop xnum yop ybs len → ce_BL st → ce_VR p K vers st old → i_Rel k (nI l, nI p, xvn, nI K, nI E, wa, wm, rf, 0, ea, er, lr, lu, lc, xop, xnum, len, st, vers, evl, xms, own, clr, amt, arg, eg, el, pos, hgt, stk, sst, sev, sw, swm, srf) (nI l, nI E, ywa, yrf, ydp, yend, yans, yrest, ybeg, lr, lu, lc, xvn, nI K, yop, ybs, len, st, cps, old, bef, ywm, wcp, ecp, mcp, rcp, evl, yms, ysf, ycl, yam, yar, ygv, yel, yat, ytp, stk) → C (nI l, nI p, xvn, nI K, nI E, wa, wm, rf, 0, ea, er, lr, lu, lc, xop, xnum, len, st, vers, evl, xms, own, clr, amt, arg, eg, el, pos, hgt, stk, sst, sev, sw, swm, srf) (nI l, nI E, ywa, yrf, ydp, yend, yans, yrest, ybeg, lr, lu, lc, xvn, nI K, yop, ybs, len, st, cps, old, bef, ywm, wcp, ecp, mcp, rcp, evl, yms, ysf, ycl, yam, yar, ygv, yel, yat, ytp, stk)) : C u v := by
  have I2 := I
  obtain ⟨l, p, K, E, xvn, wa, wm, rf, ea, er, lr, lu, lc, xop, xnum, len, st, vers, evl, xms, own, clr, amt, arg, eg, el, pos, hgt, stk, sst, sev, sw, swm, srf, rfl, ywa, yrf, ydp, yend, yans, yrest, ybeg, yop, ybs, cps, old, bef, ywm, wcp, ecp, mcp, rcp, yms, ysf, ycl, yam, yar, ygv, yel, yat, ytp, rfl, hl, hE, hPG, hBL, hVR⟩ := I
  exact H _ _ _ _ _ _ _ _ _ _ _ _ _ _ _ _ _ _ _ _ _ _ _ _ _ _ _ _ _ _ _ _ _ _ _ _ _ _ _ _ _ _ _ _ _ _ _ _ _ _ _ _ _ _ _ _ _ _ _ _ hl hE hPG hBL hVR I2
theorem ce_init (l : Nat) (hl : l ≤ 400) : i_Rel 1 (nI l, 0, 0, 0, 0, 0, 0, 0, 0, 0, 0, 0, 0, 0, (fun _ => 0), (fun _ => 0), (fun _ => 0), (fun _ => 0), (fun _ => 0), (fun _ => 0), (fun _ => 0), (fun _ => 0), (fun _ => 0), (fun _ => 0), (fun _ => 0), (fun _ => 0), (fun _ => 0), (fun _ => 0), (fun _ => 0), (fun _ => 0), (fun _ => 0), (fun _ => 0), (fun _ => 0), (fun _ => 0), (fun _ => 0)) (nI l, 0, 0, 0, 0, 0, 0, 0, 0, 0, 0, 0, 0, 0, (fun _ => 0), (fun _ => 0), (fun _ => 0), (fun _ => 0), (fun _ => 0), (fun _ => 0), (fun _ => 0), (fun _ => 0), (fun _ => 0), (fun _ => 0), (fun _ => 0), (fun _ => 0), (fun _ => 0), (fun _ => 0), (fun _ => 0), (fun _ => 0), (fun _ => 0), (fun _ => 0), (fun _ => 0), (fun _ => 0), (fun _ => 0), (fun _ => 0), (fun _ => 0)) :=
  ⟨l, 0, 0, 0, _, _, _, _, _, _, _, _, _, _, _, _, _, _, _, _, _, _, _, _, _, _, _, _, _, _, _, _, _, _, rfl, _, _, _, _, _, _, _, _, _, _, _, _, _, _, _, _, _, _, _, _, _, _, _, _, _, _, rfl, hl, by omega, fun _ _ => ⟨0, by omega, rfl, fun i hi => absurd hi (by omega)⟩, fun _ _ => ⟨0, by omega, rfl⟩, by omega, by omega, fun _ _ => rfl, fun n hn => absurd hn (by omega), fun n hn => absurd hn (by omega)⟩
theorem i_vc0 (k0 : Int32) : wpX_init (fun u => wpY_init (fun v => i_Rel 1 u v) k0) k0 := by
  unfold wpX_init wpY_init
  by_cases h : 20 ≤ k0
  · by_cases h2 : k0 ≤ 400
    · obtain ⟨l, hl, rfl⟩ := nI_of2 (M := 400) (n := 400) (by decide) (fun z => absurd (Int32.lt_of_le_of_lt h z) (by decide)) h2
      exact br_t h (br_t h2 (br_t h (br_t h2 (ce_init l hl))))
    · exact br_t h (br_f h2 (br_t h (br_f h2 (ce_init 400 (by omega)))))
  · exact br_f h (br_f h (ce_init 20 (by omega)))
theorem i_vc_put {k : Nat} {u : SX} {v : SY} (I : i_Rel k u v) (hk : k + 5 ≤ 2561) (v1 : Int32) (v2 : Int32) : wpX_put (fun r u' => wpY_put (fun r' v' => r' = r ∧ i_Rel (k + 5) u' v') v v1 v2) u v1 v2 := by
  refine ce_cases (C := fun u v => wpX_put (fun r u' => wpY_put (fun r' v' => r' = r ∧ i_Rel (k + 5) u' v') v v1 v2) u v1 v2) (show i_Rel (k + 5) u v from I) ?_
  intro l p K E xvn wa wm rf ea er lr lu lc xop xnum len st vers evl xms own clr amt arg eg el pos hgt stk sst sev sw swm srf ywa yrf ydp yend yans yrest ybeg yop ybs cps old bef ywm wcp ecp mcp rcp yms ysf ycl yam yar ygv yel yat ytp hl hE hPG hBL hVR I2
  obtain ⟨L, hL4, hL, _⟩ := hPG 6 (by omega)
  unfold wpX_put
  refine nm_r hL ?_
  rcases pk_ix v1 (n := 24) (by decide) with z | z | ⟨j, hj, rfl⟩
  · refine br_t z ?_
    unfold wpY_put
    exact br_t z ⟨rfl, I2⟩
  · have z0 : ¬ v1 < 0 := fun w => absurd (Int32.lt_of_le_of_lt z w) (by decide)
    have z23 : 23 < v1 := Int32.lt_of_lt_of_le (by decide) z
    refine br_f z0 (br_t z23 ?_)
    unfold wpY_put
    exact br_f z0 (br_t z23 ⟨rfl, I2⟩)
  · have z0 : ¬ nI j < 0 := nI_pos (by omega)
    have z23 : ¬ 23 < nI j := nI_nlt (a := 23) (by omega) (by decide)
    refine br_f z0 (br_f z23 (pk_lt L 24 (fun q => ?_) (fun q => ?_)))
    · rw [ce_144, ce_cl (by omega), nI_1]
      refine ⟨ce_in (by omega), nm_e ⟨ce_in (by omega), nm_e (nm_e ?_)⟩⟩
      unfold wpY_put
      refine br_f z0 (br_f z23 ?_)
      rw [hL, ce_144, ce_cl (by omega), nI_1, pk_vb, ce_by j hj]
      exact pk_eq L 24 (fun q2 => absurd q2 (by omega)) (fun _ => ⟨ce_in (by omega), nm_e (nm_e ⟨ce_in (by omega), nm_e ⟨pk_us, l, p, K, E, _, _, _, _, _, _, _, _, _, _, _, _, _, _, _, _, _, _, _, _, _, _, _, _, _, _, _, _, _, _, rfl, _, _, _, _, _, _, _, _, _, _, _, _, _, _, _, _, _, _, _, _, _, _, _, _, _, _, rfl, hl, hE, ce_PGput hPG hL q hj, hBL, hVR⟩⟩)⟩)
    · unfold wpY_put
      refine br_f z0 (br_f z23 ?_)
      rw [hL]
      exact pk_eq L 24 (fun _ => ⟨rfl, I2⟩) (fun n => absurd (show L = 24 by omega) n)
theorem i_vc_deploy {k : Nat} {u : SX} {v : SY} (I : i_Rel k u v) (hk : k + 5 ≤ 2561) (v1 : Int32) : wpX_deploy (fun r u' => wpY_deploy (fun r' v' => r' = r ∧ i_Rel (k + 5) u' v') v v1) u v1 := by
  refine ce_cases (C := fun u v => wpX_deploy (fun r u' => wpY_deploy (fun r' v' => r' = r ∧ i_Rel (k + 5) u' v') v v1) u v1) (show i_Rel (k + 5) u v from I) ?_
  intro l p K E xvn wa wm rf ea er lr lu lc xop xnum len st vers evl xms own clr amt arg eg el pos hgt stk sst sev sw swm srf ywa yrf ydp yend yans yrest ybeg yop ybs cps old bef ywm wcp ecp mcp rcp yms ysf ycl yam yar ygv yel yat ytp hl hE hPG hBL hVR I2
  obtain ⟨L, hL4, hL, hp6⟩ := hPG 6 (by omega)
  have fin : ∀ x : Int32, (v1 < 0 ∨ nI 6 ≤ v1) → wpX_deploy (fun r u' => wpY_deploy (fun r' v' => r' = r ∧ i_Rel (k + 5) u' v') (nI l, nI E, ywa, yrf, ydp, yend, yans, yrest, ybeg, lr, lu, lc, xvn, nI K, yop, ybs, len, st, cps, old, bef, ywm, wcp, ecp, mcp, rcp, evl, yms, ysf, ycl, yam, yar, ygv, yel, yat, ytp, stk) v1) (nI l, nI p, xvn, nI K, nI E, wa, wm, rf, 0, ea, er, lr, lu, lc, xop, xnum, len, st, vers, evl, xms, own, clr, amt, arg, eg, el, pos, hgt, stk, sst, sev, sw, swm, srf) v1 := by
    intro _ z
    unfold wpX_deploy
    refine nm_e (nm_e (xw_accF z (br_t rfl ?_)))
    unfold wpY_deploy
    exact nm_e (nm_e (yw_accF z (br_t rfl ⟨rfl, l, p, K, E, _, _, _, _, _, _, _, _, _, _, _, _, _, _, _, _, _, _, _, _, _, _, _, _, _, _, _, _, _, _, rfl, _, _, _, _, _, _, _, _, _, _, _, _, _, _, _, _, _, _, _, _, _, _, _, _, _, _, rfl, hl, hE, ce_PG0 hPG, hBL, hVR⟩)))
  rcases pk_ix v1 (n := 6) (by decide) with z | z | ⟨a, ha, rfl⟩
  · exact fin 0 (Or.inl z)
  · exact fin 0 (Or.inr z)
  · by_cases h0 : L = 0
    · subst h0
      unfold wpX_deploy
      refine nm_r hL (nm_e (xw_accT ha (br_f (by decide) (br_t rfl ?_))))
      unfold wpY_deploy
      exact nm_r hL (nm_e (yw_accT ha (br_f (by decide) (br_t rfl ⟨rfl, l, p, K, E, _, _, _, _, _, _, _, _, _, _, _, _, _, _, _, _, _, _, _, _, _, _, _, _, _, _, _, _, _, _, rfl, _, _, _, _, _, _, _, _, _, _, _, _, _, _, _, _, _, _, _, _, _, _, _, _, _, _, rfl, hl, hE, ce_PG0 hPG, hBL, hVR⟩))))
    · refine xw_dep ha hL (by omega) hL4 (yw_dep ha hL (by omega) hL4 (fun i hi => ?_) ⟨rfl, l, p, K, E, _, _, _, _, _, _, _, _, _, _, _, _, _, _, _, _, _, _, _, _, _, _, _, _, _, _, _, _, _, _, rfl, _, _, _, _, _, _, _, _, _, _, _, _, _, _, _, _, _, _, _, _, _, _, _, _, _, _, rfl, hl, hE, ce_PGdep hPG ha hL hL4, hBL, hVR⟩)
      obtain ⟨⟨q, hq, _, hy⟩, _⟩ := hp6 i hi
      exact ⟨q, hq, hy⟩
end
section
theorem i_vc_result {k : Nat} {u : SX} {v : SY} (I : i_Rel k u v) (hk : k + 5 ≤ 2561) : wpX_result (fun r => wpY_result (fun r' => r' = r ∧ i_Rel (k + 5) u v) v) u := by
  refine ce_cases (C := fun u v => wpX_result (fun r => wpY_result (fun r' => r' = r ∧ i_Rel (k + 5) u v) v) u) (show i_Rel (k + 5) u v from I) ?_
  intro l p K E xvn wa wm rf ea er lr lu lc xop xnum len st vers evl xms own clr amt arg eg el pos hgt stk sst sev sw swm srf ywa yrf ydp yend yans yrest ybeg yop ybs cps old bef ywm wcp ecp mcp rcp yms ysf ycl yam yar ygv yel yat ytp hl hE hPG hBL hVR I2
  exact ⟨rfl, I2⟩
theorem i_vc_used {k : Nat} {u : SX} {v : SY} (I : i_Rel k u v) (hk : k + 5 ≤ 2561) : wpX_used (fun r => wpY_used (fun r' => r' = r ∧ i_Rel (k + 5) u v) v) u := by
  refine ce_cases (C := fun u v => wpX_used (fun r => wpY_used (fun r' => r' = r ∧ i_Rel (k + 5) u v) v) u) (show i_Rel (k + 5) u v from I) ?_
  intro l p K E xvn wa wm rf ea er lr lu lc xop xnum len st vers evl xms own clr amt arg eg el pos hgt stk sst sev sw swm srf ywa yrf ydp yend yans yrest ybeg yop ybs cps old bef ywm wcp ecp mcp rcp yms ysf ycl yam yar ygv yel yat ytp hl hE hPG hBL hVR I2
  exact ⟨rfl, I2⟩
theorem i_vc_calls {k : Nat} {u : SX} {v : SY} (I : i_Rel k u v) (hk : k + 5 ≤ 2561) : wpX_calls (fun r => wpY_calls (fun r' => r' = r ∧ i_Rel (k + 5) u v) v) u := by
  refine ce_cases (C := fun u v => wpX_calls (fun r => wpY_calls (fun r' => r' = r ∧ i_Rel (k + 5) u v) v) u) (show i_Rel (k + 5) u v from I) ?_
  intro l p K E xvn wa wm rf ea er lr lu lc xop xnum len st vers evl xms own clr amt arg eg el pos hgt stk sst sev sw swm srf ywa yrf ydp yend yans yrest ybeg yop ybs cps old bef ywm wcp ecp mcp rcp yms ysf ycl yam yar ygv yel yat ytp hl hE hPG hBL hVR I2
  exact ⟨rfl, I2⟩
theorem i_vc_events {k : Nat} {u : SX} {v : SY} (I : i_Rel k u v) (hk : k + 5 ≤ 2561) : wpX_events (fun r => wpY_events (fun r' => r' = r ∧ i_Rel (k + 5) u v) v) u := by
  refine ce_cases (C := fun u v => wpX_events (fun r => wpY_events (fun r' => r' = r ∧ i_Rel (k + 5) u v) v) u) (show i_Rel (k + 5) u v from I) ?_
  intro l p K E xvn wa wm rf ea er lr lu lc xop xnum len st vers evl xms own clr amt arg eg el pos hgt stk sst sev sw swm srf ywa yrf ydp yend yans yrest ybeg yop ybs cps old bef ywm wcp ecp mcp rcp yms ysf ycl yam yar ygv yel yat ytp hl hE hPG hBL hVR I2
  exact ⟨rfl, I2⟩
theorem i_vc_version {k : Nat} {u : SX} {v : SY} (I : i_Rel k u v) (hk : k + 5 ≤ 2561) : wpX_version (fun r => wpY_version (fun r' => r' = r ∧ i_Rel (k + 5) u v) v) u := by
  refine ce_cases (C := fun u v => wpX_version (fun r => wpY_version (fun r' => r' = r ∧ i_Rel (k + 5) u v) v) u) (show i_Rel (k + 5) u v from I) ?_
  intro l p K E xvn wa wm rf ea er lr lu lc xop xnum len st vers evl xms own clr amt arg eg el pos hgt stk sst sev sw swm srf ywa yrf ydp yend yans yrest ybeg yop ybs cps old bef ywm wcp ecp mcp rcp yms ysf ycl yam yar ygv yel yat ytp hl hE hPG hBL hVR I2
  exact ⟨rfl, I2⟩
theorem i_vc_kept {k : Nat} {u : SX} {v : SY} (I : i_Rel k u v) (hk : k + 5 ≤ 2561) : wpX_kept (fun r => wpY_kept (fun r' => r' = r ∧ i_Rel (k + 5) u v) v) u := by
  refine ce_cases (C := fun u v => wpX_kept (fun r => wpY_kept (fun r' => r' = r ∧ i_Rel (k + 5) u v) v) u) (show i_Rel (k + 5) u v from I) ?_
  intro l p K E xvn wa wm rf ea er lr lu lc xop xnum len st vers evl xms own clr amt arg eg el pos hgt stk sst sev sw swm srf ywa yrf ydp yend yans yrest ybeg yop ybs cps old bef ywm wcp ecp mcp rcp yms ysf ycl yam yar ygv yel yat ytp hl hE hPG hBL hVR I2
  exact ⟨rfl, I2⟩
theorem i_vc_event {k : Nat} {u : SX} {v : SY} (I : i_Rel k u v) (hk : k + 5 ≤ 2561) (v1 : Int32) (v2 : Int32) : wpX_event (fun r => wpY_event (fun r' => r' = r ∧ i_Rel (k + 5) u v) v v1 v2) u v1 v2 := by
  refine ce_cases (C := fun u v => wpX_event (fun r => wpY_event (fun r' => r' = r ∧ i_Rel (k + 5) u v) v v1 v2) u v1 v2) (show i_Rel (k + 5) u v from I) ?_
  intro l p K E xvn wa wm rf ea er lr lu lc xop xnum len st vers evl xms own clr amt arg eg el pos hgt stk sst sev sw swm srf ywa yrf ydp yend yans yrest ybeg yop ybs cps old bef ywm wcp ecp mcp rcp yms ysf ycl yam yar ygv yel yat ytp hl hE hPG hBL hVR I2
  unfold wpX_event wpY_event
  dsimp only
  by_cases h1 : v1 < 0
  · exact br_t h1 (br_t h1 ⟨rfl, I2⟩)
  by_cases h2 : nI E ≤ v1
  · exact br_f h1 (br_t h2 (br_f h1 (br_t h2 ⟨rfl, I2⟩)))
  rcases pk_ix v2 (n := 3) (by decide) with z | z | ⟨j, hj, rfl⟩
  · exact br_f h1 (br_f h2 (br_t z (br_f h1 (br_f h2 (br_t z ⟨rfl, I2⟩)))))
  · have z0 : ¬ v2 < 0 := fun w => absurd (Int32.lt_of_le_of_lt z w) (by decide)
    have z3 : ¬ v2 < 3 := fun w => absurd (Int32.lt_of_le_of_lt z w) (by decide)
    have z2 : ¬ v2 ≤ 2 := fun w => absurd (Int32.le_trans z w) (by decide)
    exact br_f h1 (br_f h2 (br_f z0 (br_f z3 (br_f h1 (br_f h2 (br_f z0 (br_f z2 ⟨rfl, I2⟩)))))))
  · rcases pk_ix v1 (n := E) (by omega) with q | q | ⟨i, hi, rfl⟩
    · exact absurd q h1
    · exact absurd q h2
    · have z0 : ¬ nI j < 0 := nI_pos (by omega)
      have z3 : nI j < 3 := nI_lt (b := 3) hj (by decide)
      have z2 : nI j ≤ 2 := nI_le (b := 2) (by omega) (by decide)
      rw [ce_mR3, ce_mL3, nI_add, ce_cl (by omega)]
      exact br_f h1 (br_f h2 (br_f z0 (br_t z3 ⟨ce_in (by omega), br_f h1 (br_f h2 (br_f z0 (br_t z2 ⟨ce_in (by omega), rfl, I2⟩)))⟩)))
theorem i_vc_balance {k : Nat} {u : SX} {v : SY} (I : i_Rel k u v) (hk : k + 5 ≤ 2561) (v1 : Int32) : wpX_balance (fun r => wpY_balance (fun r' => r' = r ∧ i_Rel (k + 5) u v) v v1) u v1 := by
  refine ce_cases (C := fun u v => wpX_balance (fun r => wpY_balance (fun r' => r' = r ∧ i_Rel (k + 5) u v) v v1) u v1) (show i_Rel (k + 5) u v from I) ?_
  intro l p K E xvn wa wm rf ea er lr lu lc xop xnum len st vers evl xms own clr amt arg eg el pos hgt stk sst sev sw swm srf ywa yrf ydp yend yans yrest ybeg yop ybs cps old bef ywm wcp ecp mcp rcp yms ysf ycl yam yar ygv yel yat ytp hl hE hPG hBL hVR I2
  unfold wpX_balance wpY_balance
  dsimp only
  rcases pk_ix v1 (n := 6) (by decide) with z | z | ⟨a, ha, rfl⟩
  · exact xw_accF (Or.inl z) (br_t rfl (yw_pastF (Or.inr (Or.inr (Or.inl (Or.inl z)))) ⟨rfl, I2⟩))
  · exact xw_accF (Or.inr z) (br_t rfl (yw_pastF (Or.inr (Or.inr (Or.inl (Or.inr z)))) ⟨rfl, I2⟩))
  · refine xw_accT ha (br_f (by decide) ?_)
    rw [ce_mR5, ce_a4, ce_cl (by omega)]
    exact ⟨ce_in (by omega), yw_past (n := 0) (c := 4) hVR.2.1 (by omega) ha (by omega) ⟨rfl, I2⟩⟩
theorem i_vc_cell {k : Nat} {u : SX} {v : SY} (I : i_Rel k u v) (hk : k + 5 ≤ 2561) (v1 : Int32) (v2 : Int32) : wpX_cell (fun r => wpY_cell (fun r' => r' = r ∧ i_Rel (k + 5) u v) v v1 v2) u v1 v2 := by
  refine ce_cases (C := fun u v => wpX_cell (fun r => wpY_cell (fun r' => r' = r ∧ i_Rel (k + 5) u v) v v1 v2) u v1 v2) (show i_Rel (k + 5) u v from I) ?_
  intro l p K E xvn wa wm rf ea er lr lu lc xop xnum len st vers evl xms own clr amt arg eg el pos hgt stk sst sev sw swm srf ywa yrf ydp yend yans yrest ybeg yop ybs cps old bef ywm wcp ecp mcp rcp yms ysf ycl yam yar ygv yel yat ytp hl hE hPG hBL hVR I2
  unfold wpX_cell wpY_cell
  dsimp only
  rcases pk_ix v1 (n := 6) (by decide) with z | z | ⟨a, ha, rfl⟩
  · exact xw_accF (Or.inl z) (br_t rfl (br_c (fun _ => ⟨rfl, I2⟩) (fun _ => yw_pastF (Or.inr (Or.inr (Or.inl (Or.inl z)))) ⟨rfl, I2⟩)))
  · exact xw_accF (Or.inr z) (br_t rfl (br_c (fun _ => ⟨rfl, I2⟩) (fun _ => yw_pastF (Or.inr (Or.inr (Or.inl (Or.inr z)))) ⟨rfl, I2⟩)))
  · refine xw_accT ha (br_f (by decide) ?_)
    rcases pk_ix v2 (n := 4) (by decide) with z | z | ⟨j, hj, rfl⟩
    · refine br_t z (br_f (fun e => ?_) (yw_pastF (Or.inr (Or.inr (Or.inr (Or.inl z)))) ⟨rfl, I2⟩))
      rw [e] at z; revert z; decide
    · have z0 : ¬ v2 < 0 := fun w => absurd (Int32.lt_of_le_of_lt z w) (by decide)
      have z4 : ¬ v2 < 4 := fun w => absurd (Int32.lt_of_le_of_lt z w) (by decide)
      refine br_f z0 (br_f z4 (br_c (fun _ => ⟨rfl, I2⟩) (fun n4 => ?_)))
      rcases pk_ix v2 (n := 5) (by decide) with q | q | ⟨j, hj, rfl⟩
      · exact absurd q z0
      · exact yw_pastF (Or.inr (Or.inr (Or.inr (Or.inr q)))) ⟨rfl, I2⟩
      · have : j = 4 := by
          have := (nI_leI (a := 4) (b := j) (by omega) (by omega)).mp z
          omega
        subst this
        exact absurd rfl n4
    · rw [ce_mR5, nI_add, ce_cl (by omega)]
      refine br_f (nI_pos (by omega)) (br_t (nI_lt (b := 4) hj (by decide)) ⟨ce_in (by omega), pk_eq j 4 (fun q => absurd q (by omega)) (fun _ => ?_)⟩)
      exact yw_past (n := 0) hVR.2.1 (by omega) ha (by omega) ⟨rfl, I2⟩
theorem i_vc_back {k : Nat} {u : SX} {v : SY} (I : i_Rel k u v) (hk : k + 5 ≤ 2561) (v1 : Int32) : wpX_back (fun r u' => wpY_back (fun r' v' => r' = r ∧ i_Rel (k + 5) u' v') v v1) u v1 := by
  refine ce_cases (C := fun u v => wpX_back (fun r u' => wpY_back (fun r' v' => r' = r ∧ i_Rel (k + 5) u' v') v v1) u v1) (show i_Rel (k + 5) u v from I) ?_
  intro l p K E xvn wa wm rf ea er lr lu lc xop xnum len st vers evl xms own clr amt arg eg el pos hgt stk sst sev sw swm srf ywa yrf ydp yend yans yrest ybeg yop ybs cps old bef ywm wcp ecp mcp rcp yms ysf ycl yam yar ygv yel yat ytp hl hE hPG hBL hVR I2
  have hK6 := hVR.2.1
  by_cases h1 : v1 < 1
  · unfold wpX_back wpY_back
    exact br_t h1 (br_t h1 ⟨rfl, I2⟩)
  by_cases h2 : v1 ≤ nI K
  · obtain ⟨n, hn, rfl⟩ := nI_of2 (n := K) (nI_toInt (by omega)) (fun z => h1 (Int32.lt_trans z (by decide))) h2
    have hn1 : 1 ≤ n := by
      have := mt (nI_ltI (a := n) (b := 1) (by omega) (by omega)).mpr h1
      omega
    refine xw_bck hVR.1 hn1 hn hK6 (yw_bck hn1 hn hK6 ?_)
    have e : ce_cp st 0 30 (fun j => old (30 * (n - 1) + j)) = ce_cp st 0 30 (fun j => vers (30 * ((p + 7 - n) % 7) + j)) := ce_cpc (fun j hj => by
      rw [ce_VRpv hVR hn hj]
      unfold ce_pv
      rw [if_neg (by omega)])
    rw [e]
    have V2 := ce_VRbck hVR hn1 hn
    refine ⟨rfl, l, (p + 7 - n) % 7, K - n, E, _, _, _, _, _, _, _, _, _, _, _, _, _, _, _, _, _, _, _, _, _, _, _, _, _, _, _, _, _, _, rfl, _, _, _, _, _, _, _, _, _, _, _, _, _, _, _, _, _, _, _, _, _, _, _, _, _, _, rfl, hl, hE, hPG, ?_, V2⟩
    rw [← e]
    exact ce_BLc (hVR.2.2.2.2 (n - 1) (by omega)) (fun j hj => ce_cpi0 hj)
  · unfold wpX_back wpY_back
    exact br_f h1 (br_f h2 (br_f h1 (br_f h2 ⟨rfl, I2⟩)))
end
section
theorem i_vc_past {k : Nat} {u : SX} {v : SY} (I : i_Rel k u v) (hk : k + 5 ≤ 2561) (v1 : Int32) (v2 : Int32) (v3 : Int32) : wpX_past (fun r => wpY_past (fun r' => r' = r ∧ i_Rel (k + 5) u v) v v1 v2 v3) u v1 v2 v3 := by
  refine ce_cases (C := fun u v => wpX_past (fun r => wpY_past (fun r' => r' = r ∧ i_Rel (k + 5) u v) v v1 v2 v3) u v1 v2 v3) (show i_Rel (k + 5) u v from I) ?_
  intro l p K E xvn wa wm rf ea er lr lu lc xop xnum len st vers evl xms own clr amt arg eg el pos hgt stk sst sev sw swm srf ywa yrf ydp yend yans yrest ybeg yop ybs cps old bef ywm wcp ecp mcp rcp yms ysf ycl yam yar ygv yel yat ytp hl hE hPG hBL hVR I2
  have hK6 := hVR.2.1
  unfold wpX_past
  by_cases h1 : v1 < 0
  · exact br_t h1 (yw_pastF (Or.inl h1) ⟨rfl, I2⟩)
  by_cases h2 : nI K < v1
  · exact br_f h1 (br_t h2 (yw_pastF (Or.inr (Or.inl h2)) ⟨rfl, I2⟩))
  refine br_f h1 (br_f h2 ?_)
  obtain ⟨n, hn, rfl⟩ := nI_of2 (n := K) (nI_toInt (by omega)) h1 (Int32.not_lt.mp h2)
  rcases pk_ix v2 (n := 6) (by decide) with z | z | ⟨a, ha, rfl⟩
  · exact xw_accF (Or.inl z) (br_t rfl (yw_pastF (Or.inr (Or.inr (Or.inl (Or.inl z)))) ⟨rfl, I2⟩))
  · exact xw_accF (Or.inr z) (br_t rfl (yw_pastF (Or.inr (Or.inr (Or.inl (Or.inr z)))) ⟨rfl, I2⟩))
  refine xw_accT ha (br_f (by decide) ?_)
  rcases pk_ix v3 (n := 5) (by decide) with z | z | ⟨j, hj, rfl⟩
  · exact br_t z (yw_pastF (Or.inr (Or.inr (Or.inr (Or.inl z)))) ⟨rfl, I2⟩)
  · have z0 : ¬ v3 < 0 := fun w => absurd (Int32.lt_of_le_of_lt z w) (by decide)
    have z5 : ¬ v3 < 5 := fun w => absurd (Int32.lt_of_le_of_lt z w) (by decide)
    exact br_f z0 (br_f z5 (yw_pastF (Or.inr (Or.inr (Or.inr (Or.inr z)))) ⟨rfl, I2⟩))
  · refine br_f (nI_pos (by omega)) (br_t (nI_lt (b := 5) hj (by decide)) (xw_slot hVR.1 (by omega) ?_))
    rw [ce_mR30, ce_mR5, nI_add, nI_add, ce_cl (by omega), show 30 * ((p + 7 - n) % 7) + 5 * a + j = 30 * ((p + 7 - n) % 7) + (5 * a + j) by omega, ce_VRpv hVR hn (by omega)]
    exact ⟨ce_in (by omega), yw_past hK6 hn ha hj ⟨rfl, I2⟩⟩
theorem i_vc_digest {k : Nat} {u : SX} {v : SY} (I : i_Rel k u v) (hk : k + 5 ≤ 2561) (v1 : Int32) : wpX_digest (fun r => wpY_digest (fun r' => r' = r ∧ i_Rel (k + 5) u v) v v1) u v1 := by
  refine ce_cases (C := fun u v => wpX_digest (fun r => wpY_digest (fun r' => r' = r ∧ i_Rel (k + 5) u v) v v1) u v1) (show i_Rel (k + 5) u v from I) ?_
  intro l p K E xvn wa wm rf ea er lr lu lc xop xnum len st vers evl xms own clr amt arg eg el pos hgt stk sst sev sw swm srf ywa yrf ydp yend yans yrest ybeg yop ybs cps old bef ywm wcp ecp mcp rcp yms ysf ycl yam yar ygv yel yat ytp hl hE hPG hBL hVR I2
  have hK6 := hVR.2.1
  unfold wpX_digest wpY_digest
  dsimp only
  by_cases h1 : v1 < 0
  · exact br_t h1 (br_t h1 ⟨rfl, I2⟩)
  by_cases h2 : v1 ≤ nI K
  · obtain ⟨n, hn, rfl⟩ := nI_of2 (n := K) (nI_toInt (by omega)) h1 h2
    exact br_f h1 (br_t h2 (xw_slot hVR.1 (by omega) (nm_r (ce_mR30 _) (xw_dig (f := ce_pv st old n) (by omega) (fun j hj => ce_VRpv hVR hn hj) (br_f h1 (br_t h2 (yw_dig hK6 hn ⟨rfl, I2⟩)))))))
  · exact br_f h1 (br_f h2 (br_f h1 (br_f h2 ⟨rfl, I2⟩)))
end
