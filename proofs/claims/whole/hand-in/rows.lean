section
/-! pasted from kit/rows (PURE-ROWS: pk_*; BITS: bt family, nf_sh, wb_*) -/
theorem pk_us {f : Nat → Int32} {k : Nat} {x : Int32} : upd f k x k = x := if_pos rfl
theorem pk_un {f : Nat → Int32} {k j : Nat} {x : Int32} (h : j ≠ k) : upd f k x j = f j := if_neg h
theorem pk_uLs {f : Nat → Int64} {k : Nat} {x : Int64} : vp_updL f k x k = x := if_pos rfl
theorem pk_uLn {f : Nat → Int64} {k j : Nat} {x : Int64} (h : j ≠ k) : vp_updL f k x j = f j := if_neg h
theorem pk_sub {a b : Nat} (h : b ≤ a) : nI a - nI b = nI (a - b) := by
  obtain ⟨c, rfl⟩ : ∃ c, a = c + b := ⟨a - b, by omega⟩
  rw [← nI_add, Int32.add_sub_cancel, Nat.add_sub_cancel]
theorem pk_m1 (n : Nat) : nI (n + 1) + (-1) = nI n := by
  rw [← nI_1, Int32.add_assoc, show (1 : Int32) + (-1) = 0 from rfl, Int32.add_zero]
theorem pk_mul (a b : Nat) : nI a * nI b = nI (a * b) := (Int32.ofNat_mul a b).symm
theorem pk_div {a d : Nat} (ha : a < 2 ^ 31) (h0 : 0 < d) (hd : d < 2 ^ 31) : nI a / nI d = nI (a / d) := by
  apply Int32.toInt_inj.mp
  rw [lg_idiv_nonneg (by rw [nI_toInt ha]; omega) (by rw [nI_toInt hd]; omega), nI_toInt ha, nI_toInt hd, nI_toInt (Nat.lt_of_le_of_lt (Nat.div_le_self a d) ha)]
  first | rfl | exact (Int.natCast_ediv _ _).symm
theorem pk_rem {a d : Nat} (ha : a < 2 ^ 31) (h0 : 0 < d) (hd : d < 2 ^ 31) : nI a - nI a / nI d * nI d = nI (a % d) := by
  rw [pk_div ha h0 hd, pk_mul, pk_sub (Nat.div_mul_le_self a d)]
  exact congrArg nI (by have := Nat.div_add_mod' a d; omega)
theorem pk_sub_toInt {a b : Nat} (ha : a < 2 ^ 30) (hb : b < 2 ^ 30) : (nI a - nI b).toInt = (a : Int) - b := by
  rw [Int32.toInt_sub, nI_toInt (by omega), nI_toInt (by omega)]
  exact Int.bmod_eq_of_le (by omega) (by omega)
theorem pk_sneg {a b : Nat} (hb : b < 2 ^ 30) (h : a < b) : nI a - nI b < 0 := by
  rw [Int32.lt_iff_toInt_lt, pk_sub_toInt (by omega) hb, show (0 : Int32).toInt = 0 from by decide]
  omega
theorem pk_ix (x : Int32) {n : Nat} (hn : n < 2 ^ 31) : x < 0 ∨ nI n ≤ x ∨ ∃ j : Nat, j < n ∧ x = nI j := by
  by_cases h : x < 0
  · exact Or.inl h
  · obtain ⟨j, hj, rfl⟩ := nI_of h
    by_cases h2 : j < n
    · exact Or.inr (Or.inr ⟨j, h2, rfl⟩)
    · exact Or.inr (Or.inl (nI_le (by omega) hj))
theorem pk_le {x y : Int32} {A B : Prop} (a b : Nat) (f : a ≤ b → A) (g : b < a → B) (hx : x = nI a := by rfl) (hy : y = nI b := by rfl) (ha : a < 2 ^ 31 := by omega) (hb : b < 2 ^ 31 := by omega) : (x ≤ y → A) ∧ (¬ x ≤ y → B) := by
  subst hx hy
  rw [nI_leI ha hb]
  exact ⟨f, fun z => g (by omega)⟩
theorem pk_lt {x y : Int32} {A B : Prop} (a b : Nat) (f : a < b → A) (g : b ≤ a → B) (hx : x = nI a := by rfl) (hy : y = nI b := by rfl) (ha : a < 2 ^ 31 := by omega) (hb : b < 2 ^ 31 := by omega) : (x < y → A) ∧ (¬ x < y → B) := by
  subst hx hy
  rw [nI_ltI ha hb]
  exact ⟨f, fun z => g (by omega)⟩
theorem pk_eq {x y : Int32} {A B : Prop} (a b : Nat) (f : a = b → A) (g : a ≠ b → B) (hx : x = nI a := by rfl) (hy : y = nI b := by rfl) (ha : a < 2 ^ 31 := by omega) (hb : b < 2 ^ 31 := by omega) : (x = y → A) ∧ (¬ x = y → B) := by
  subst hx hy
  rw [nI_eq ha hb]
  exact ⟨f, g⟩
theorem pk_in {x : Int32} (n N : Nat) (h : n < N) (hx : x = nI n := by rfl) (hN : N < 2 ^ 31 := by omega) : vp_in x N := by
  subst hx
  exact vp_in_nI h hN
theorem pk_cl {x : Int32} (n : Nat) (hx : x = nI n := by rfl) (h : n < 2 ^ 31 := by omega) : x.toNatClampNeg = n := by
  subst hx
  exact nI_clamp h
theorem pk_tn {n : Nat} (h : n < 2 ^ 32) : (nI n).toBitVec.toNat = n := Nat.mod_eq_of_lt h
def bt (x : Int32) (i : Nat) : Bool := x.toBitVec.getLsbD i
theorem b_ext {x y : Int32} (h : ∀ i, i < 32 → bt x i = bt y i) : x = y := Int32.toBitVec_inj.mp (BitVec.eq_of_getLsbD_eq (fun i hi => h i hi))
theorem b_or (x y : Int32) (i : Nat) : bt (x ||| y) i = (bt x i || bt y i) := by unfold bt; rw [Int32.toBitVec_or, BitVec.getLsbD_or]
theorem b_and (x y : Int32) (i : Nat) : bt (x &&& y) i = (bt x i && bt y i) := by unfold bt; rw [Int32.toBitVec_and, BitVec.getLsbD_and]
theorem b_xor (x y : Int32) (i : Nat) : bt (x ^^^ y) i = (bt x i ^^ bt y i) := by unfold bt; rw [Int32.toBitVec_xor, BitVec.getLsbD_xor]
theorem b_big {x : Int32} {i : Nat} (h : 32 ≤ i) : bt x i = false := BitVec.getLsbD_of_ge _ _ h
theorem b_0 (i : Nat) : bt 0 i = false := BitVec.getLsbD_zero
theorem s_l : ∀ n, n < 32 → ((nI n &&& 31).toBitVec.smod 32).toNat = n := by decide +kernel
theorem b_shl (n : Nat) (hn : n < 32) (x : Int32) {i : Nat} (hi : i < 32) : bt (x <<< (nI n &&& 31)) i = (decide (n ≤ i) && bt x (i - n)) := by
  unfold bt
  rw [Int32.toBitVec_shiftLeft]
  show (x.toBitVec <<< ((nI n &&& 31).toBitVec.smod 32).toNat).getLsbD i = _
  rw [s_l n hn, BitVec.getLsbD_shiftLeft]
  rcases Nat.lt_or_ge i n with h | h
  · simp [h, Nat.not_le.mpr h]
  · simp [hi, h, Nat.not_lt.mpr h]
theorem b_sshr (n : Nat) (hn : n < 32) (x : Int32) {i : Nat} (hi : i < 32) : bt (x >>> (nI n &&& 31)) i = if n + i < 32 then bt x (n + i) else bt x 31 := by
  unfold bt
  rw [Int32.toBitVec_shiftRight]
  show (x.toBitVec.sshiftRight ((nI n &&& 31).toBitVec.smod 32).toNat).getLsbD i = _
  rw [s_l n hn, BitVec.getLsbD_sshiftRight, BitVec.msb_eq_getLsbD_last]
  simp [hi]
theorem wb_tb (n : Nat) : (lN n).toBitVec = BitVec.ofNat 64 n := rfl
theorem wb_inj {a b : Int64} (h : a.toBitVec = b.toBitVec) : a = b := Int64.toBitVec_inj.mp h
theorem wb_tn {n : Nat} (h : n < 2 ^ 64) : (lN n).toBitVec.toNat = n := by rw [wb_tb, BitVec.toNat_ofNat, Nat.mod_eq_of_lt h]
theorem wb_of (x : Int64) : ∃ n, n < 2 ^ 64 ∧ x = lN n := ⟨x.toBitVec.toNat, x.toBitVec.isLt, wb_inj (by rw [wb_tb]; simp)⟩
theorem wb_of32 (x : Int32) : ∃ n, n < 2 ^ 32 ∧ x = nI n := ⟨x.toBitVec.toNat, x.toBitVec.isLt, Int32.toBitVec_inj.mp (by show _ = BitVec.ofNat 32 _; simp)⟩
theorem wb_c : ∀ k, k < 64 → ((nI k).toInt64 &&& 63) = lN k := by decide +kernel
theorem wb_cu : ∀ k, k < 64 → ((nI k).toInt64.toUInt64 &&& Int64.toUInt64 63) = UInt64.ofNat k := by decide +kernel
theorem wb_sm : ∀ k, k < 64 → (BitVec.ofNat 64 k).smod 64 = BitVec.ofNat 64 k := by decide +kernel
theorem wb_shl (n : Nat) {k : Nat} (hk : k < 64) : lN n <<< ((nI k).toInt64 &&& 63) = lN (n * 2 ^ k) := by
  rw [wb_c k hk]
  apply wb_inj
  rw [Int64.toBitVec_shiftLeft, wb_tb, wb_tb, wb_tb, wb_sm k hk]
  apply BitVec.eq_of_toNat_eq
  rw [BitVec.shiftLeft_eq', BitVec.toNat_shiftLeft, BitVec.toNat_ofNat, BitVec.toNat_ofNat, BitVec.toNat_ofNat, Nat.mod_eq_of_lt (show k < 2 ^ 64 by omega), Nat.shiftLeft_eq, Nat.mul_mod, Nat.mod_mod, ← Nat.mul_mod]
theorem wb_and {a b : Nat} (ha : a < 2 ^ 64) (hb : b < 2 ^ 64) : lN a &&& lN b = lN (a &&& b) := by
  apply wb_inj
  rw [Int64.toBitVec_and, wb_tb, wb_tb, wb_tb]
  apply BitVec.eq_of_toNat_eq
  rw [BitVec.toNat_and, BitVec.toNat_ofNat, BitVec.toNat_ofNat, BitVec.toNat_ofNat, Nat.mod_eq_of_lt ha, Nat.mod_eq_of_lt hb, Nat.mod_eq_of_lt (Nat.and_lt_two_pow _ hb)]
theorem wb_or {a b : Nat} (ha : a < 2 ^ 64) (hb : b < 2 ^ 64) : lN a ||| lN b = lN (a ||| b) := by
  apply wb_inj
  rw [Int64.toBitVec_or, wb_tb, wb_tb, wb_tb]
  apply BitVec.eq_of_toNat_eq
  rw [BitVec.toNat_or, BitVec.toNat_ofNat, BitVec.toNat_ofNat, BitVec.toNat_ofNat, Nat.mod_eq_of_lt ha, Nat.mod_eq_of_lt hb, Nat.mod_eq_of_lt (Nat.or_lt_two_pow ha hb)]
/-! own -/
noncomputable def th_B (P : Prop) : Bool := @decide P (Classical.propDecidable P)
theorem th_B_t {P : Prop} (h : P) : th_B P = true := @decide_eq_true P (Classical.propDecidable P) h
theorem th_B_f {P : Prop} (h : ¬ P) : th_B P = false := @decide_eq_false P (Classical.propDecidable P) h
theorem th_B_iff {P : Prop} : th_B P = true ↔ P := @decide_eq_true_iff P (Classical.propDecidable P)
theorem th_2 (a : Nat) : nI a + 2 = nI (a + 2) := nI_add a 2
theorem th_3 (a : Nat) : nI a + 3 = nI (a + 3) := nI_add a 3
theorem th_m9 (a : Nat) : nI a * 9 = nI (a * 9) := pk_mul a 9
theorem th_m5 (a : Nat) : nI a * 5 = nI (a * 5) := pk_mul a 5
theorem th_0 {a : Nat} (h : a < 2 ^ 31) : nI a = 0 ↔ a = 0 := by
  rw [← nI_0, nI_eq h (by omega)]
theorem th_s1 {n : Nat} (h : 0 < n) : nI n - 1 = nI (n - 1) := by
  obtain ⟨m, rfl⟩ : ∃ m, n = m + 1 := ⟨n - 1, by omega⟩
  exact nI_pred m
theorem th_b1 {i : Nat} : bt 1 i = decide (i = 0) := by
  rcases Nat.lt_or_ge i 32 with h | h
  · exact (by decide +kernel : ∀ i, i < 32 → bt 1 i = decide (i = 0)) i h
  · rw [b_big h, decide_eq_false (by omega)]
/-- bit i of one bit -/
theorem th_bp {n i : Nat} (hn : n < 32) (hi : i < 32) : bt ((1 : Int32) <<< (nI n &&& 31)) i = decide (i = n) := by
  rw [b_shl n hn 1 hi, th_b1]
  by_cases e : i = n
  · subst e; simp
  · by_cases l : n ≤ i
    · simp [e, l]; omega
    · simp [e, l]
theorem th_band {x : Int32} {n : Nat} (hn : n < 32) : x &&& ((1 : Int32) <<< (nI n &&& 31)) = 0 ↔ bt x n = false := by
  constructor
  · intro h
    have e : bt (x &&& ((1 : Int32) <<< (nI n &&& 31))) n = bt 0 n := by rw [h]
    rw [b_and, th_bp hn hn, b_0] at e
    simpa using e
  · intro h
    apply b_ext
    intro i hi
    rw [b_and, th_bp hn hi, b_0]
    by_cases e : i = n
    · subst e; simp [h]
    · simp [e]
theorem th_bshr {x : Int32} {n : Nat} (hn : n < 32) : (x >>> (nI n &&& 31)) &&& 1 = 1 ↔ bt x n = true := by
  constructor
  · intro h
    have e : bt ((x >>> (nI n &&& 31)) &&& 1) 0 = bt 1 0 := by rw [h]
    rw [b_and, b_sshr n hn x (by omega), th_b1] at e
    simpa [hn] using e
  · intro h
    apply b_ext
    intro i hi
    rw [b_and, b_sshr n hn x hi, th_b1]
    by_cases e : i = 0
    · subst e; simp [h, hn]
    · simp [e]
/-- bits of a long -/
def th_lb (w : Int64) (i : Nat) : Bool := w.toBitVec.getLsbD i
theorem th_lbit {j : Nat} (hj : j < 64) : ((1 : Int64) <<< ((nI j).toInt64 &&& 63)).toBitVec = BitVec.twoPow 64 j := by
  have e := wb_shl 1 hj
  rw [show (lN 1 : Int64) = 1 from rfl] at e
  rw [e, wb_tb]
  apply BitVec.eq_of_toNat_eq
  rw [BitVec.toNat_twoPow, BitVec.toNat_ofNat, Nat.one_mul]
theorem th_lor {w : Int64} {i j : Nat} (hj : j < 64) (hi : i < 64) : th_lb (w ||| ((1 : Int64) <<< ((nI j).toInt64 &&& 63))) i = (th_lb w i || decide (i = j)) := by
  unfold th_lb
  rw [Int64.toBitVec_or, BitVec.getLsbD_or, th_lbit hj, BitVec.getLsbD_twoPow]
  by_cases e : i = j
  · subst e; simp [hi]
  · have e' : ¬ j = i := fun z => e z.symm
    simp [e, e']
theorem th_land {w : Int64} {j : Nat} (hj : j < 64) : w &&& ((1 : Int64) <<< ((nI j).toInt64 &&& 63)) = 0 ↔ th_lb w j = false := by
  constructor
  · intro h
    have e : th_lb (w &&& ((1 : Int64) <<< ((nI j).toInt64 &&& 63))) j = th_lb 0 j := by rw [h]
    unfold th_lb at *
    rw [Int64.toBitVec_and, BitVec.getLsbD_and, th_lbit hj, BitVec.getLsbD_twoPow] at e
    simpa [hj] using e
  · intro h
    apply wb_inj
    apply BitVec.eq_of_getLsbD_eq
    intro i hi
    rw [Int64.toBitVec_and, BitVec.getLsbD_and, th_lbit hj, BitVec.getLsbD_twoPow]
    by_cases e : i = j
    · subst e
      unfold th_lb at h
      simp [h]
    · have e' : ¬ j = i := fun z => e z.symm
      simp [e']
end
section
def th_s9 (f : Nat → Nat) : Nat := f 0 + f 1 + f 2 + f 3 + f 4 + f 5 + f 6 + f 7 + f 8
theorem th_c9 {P : Nat → Prop} (h0 : P 0) (h1 : P 1) (h2 : P 2) (h3 : P 3) (h4 : P 4) (h5 : P 5) (h6 : P 6) (h7 : P 7) (h8 : P 8) : ∀ k, k < 9 → P k
  | 0, _ => h0
  | 1, _ => h1
  | 2, _ => h2
  | 3, _ => h3
  | 4, _ => h4
  | 5, _ => h5
  | 6, _ => h6
  | 7, _ => h7
  | 8, _ => h8
  | k + 9, h => absurd h (by omega)
theorem th_all9 {P : Nat → Prop} (h : ∀ k, k < 9 → P k) : P 0 ∧ P 1 ∧ P 2 ∧ P 3 ∧ P 4 ∧ P 5 ∧ P 6 ∧ P 7 ∧ P 8 :=
  ⟨h 0 (by decide), h 1 (by decide), h 2 (by decide), h 3 (by decide), h 4 (by decide), h 5 (by decide), h 6 (by decide), h 7 (by decide), h 8 (by decide)⟩
theorem th_s9_ext {f g : Nat → Nat} (h : ∀ k, k < 9 → f k = g k) : th_s9 f = th_s9 g := by
  have t := th_all9 h
  unfold th_s9
  omega
theorem th_s9_le {f g : Nat → Nat} (h : ∀ k, k < 9 → f k ≤ g k) : th_s9 f ≤ th_s9 g := by
  have t := th_all9 h
  unfold th_s9
  omega
theorem th_s9_add (f g : Nat → Nat) : th_s9 (fun k => f k + g k) = th_s9 f + th_s9 g := by
  unfold th_s9
  dsimp only
  omega
theorem th_s9_pin {f g : Nat → Nat} (h : ∀ k, k < 9 → f k ≤ g k) (e : th_s9 g ≤ th_s9 f) : ∀ k, k < 9 → f k = g k := by
  have t := th_all9 h
  unfold th_s9 at e
  exact th_c9 (P := fun k => f k = g k) (by omega) (by omega) (by omega) (by omega) (by omega) (by omega) (by omega) (by omega) (by omega)
theorem th_s9_mem (f : Nat → Nat) : ∀ k, k < 9 → f k ≤ th_s9 f := by
  unfold th_s9
  exact th_c9 (P := fun k => f k ≤ _) (by omega) (by omega) (by omega) (by omega) (by omega) (by omega) (by omega) (by omega) (by omega)
/-- one cell changed -/
def th_put (c : Nat → Nat) (j x : Nat) : Nat → Nat := fun k => if k = j then x else c k
theorem th_put_s {c : Nat → Nat} {j x : Nat} : th_put c j x j = x := by simp [th_put]
theorem th_put_n {c : Nat → Nat} {j x k : Nat} (h : k ≠ j) : th_put c j x k = c k := by simp [th_put, h]
theorem th_s9_put (F : Nat → Nat → Nat) (c : Nat → Nat) (x : Nat) : ∀ j, j < 9 →
    th_s9 (fun k => F k (th_put c j x k)) + F j (c j) = th_s9 (fun k => F k (c k)) + F j x := by
  refine th_c9 ?_ ?_ ?_ ?_ ?_ ?_ ?_ ?_ ?_ <;> simp [th_s9, th_put] <;> omega
/-- what c has beyond h; what h has beyond c -/
def th_over (c h : Nat → Nat) : Nat := th_s9 (fun k => c k - h k)
theorem th_over_bal (c h : Nat → Nat) : th_over c h + th_s9 h = th_over h c + th_s9 c := by
  unfold th_over
  rw [← th_s9_add, ← th_s9_add]
  exact th_s9_ext fun k _ => by omega
theorem th_over_0 {c h : Nat → Nat} : th_over h c = 0 ↔ ∀ k, k < 9 → h k ≤ c k := by
  unfold th_over
  constructor
  · intro e k hk
    have := th_s9_mem (fun k => h k - c k) k hk
    omega
  · intro e
    have : th_s9 (fun k => h k - c k) = th_s9 (fun _ => 0) := th_s9_ext fun k hk => by
      have := e k hk
      omega
    rw [this]; rfl
theorem th_over_mono {c c' h : Nat → Nat} (e : ∀ k, k < 9 → c k ≤ c' k) : th_over c h ≤ th_over c' h :=
  th_s9_le fun k hk => Nat.sub_le_sub_right (e k hk) _
/-- the tiles of a group: 0 to 8 three of a kind, 9 to 13 runs, 14 none -/
def th_G (g k : Nat) : Nat :=
  if g < 9 then (if k = g then 3 else 0) else if g < 14 then (if g ≤ k + 9 ∧ k + 9 < g + 3 then 1 else 0) else 0
def th_tile (g i : Nat) : Nat := if g < 9 then g else g - 9 + i
def th_one (g : Nat) : Nat := if g < 14 then 1 else 0
theorem th_G_s9 : ∀ g, g < 15 → th_s9 (th_G g) = 3 * th_one g := by decide +kernel
theorem th_G_tile : ∀ g, g < 14 → ∀ k, k < 9 → th_G g k = (if k = th_tile g 0 then 1 else 0) + (if k = th_tile g 1 then 1 else 0) + (if k = th_tile g 2 then 1 else 0) := by decide +kernel
theorem th_tile_lt : ∀ g, g < 14 → ∀ i, i < 3 → th_tile g i < 9 := by decide +kernel
/-- a set of up to three groups is a number q below 3375 = 15^3 with digits that don't fall -/
def th_a (q : Nat) : Nat := q / 225
def th_b (q : Nat) : Nat := q / 15 % 15
def th_c (q : Nat) : Nat := q % 15
def th_srt (q : Nat) : Bool := decide (th_a q ≤ th_b q) && decide (th_b q ≤ th_c q)
def th_vec (q k : Nat) : Nat := th_G (th_a q) k + th_G (th_b q) k + th_G (th_c q) k
def th_sz (q : Nat) : Nat := th_one (th_a q) + th_one (th_b q) + th_one (th_c q)
theorem th_srt_iff {q : Nat} : th_srt q = true ↔ q / 225 ≤ q / 15 % 15 ∧ q / 15 % 15 ≤ q % 15 := by
  unfold th_srt
  rw [Bool.and_eq_true, decide_eq_true_eq, decide_eq_true_eq]
  exact Iff.rfl
theorem th_srt_no {q : Nat} : th_srt q = false ↔ ¬ (q / 225 ≤ q / 15 % 15 ∧ q / 15 % 15 ≤ q % 15) := by
  rw [← th_srt_iff]; simp
theorem th_vec_s9 {q : Nat} (h : q < 3375) : th_s9 (th_vec q) = 3 * th_sz q := by
  have e1 := th_G_s9 (th_a q) (by unfold th_a; omega)
  have e2 := th_G_s9 (th_b q) (by unfold th_b; omega)
  have e3 := th_G_s9 (th_c q) (by unfold th_c; omega)
  unfold th_sz
  unfold th_s9 th_vec at *
  omega
/-- how many below n -/
def th_cnt (P : Nat → Bool) : Nat → Nat
  | 0 => 0
  | n + 1 => th_cnt P n + (if P n then 1 else 0)
theorem th_cnt_gap {P : Nat → Bool} {T : Nat} : ∀ d, (∀ q, T ≤ q → q < T + d → P q = false) → th_cnt P (T + d) = th_cnt P T
  | 0, _ => rfl
  | d + 1, h => by
    have e := th_cnt_gap d (fun q a b => h q a (by omega))
    have z := h (T + d) (by omega) (by omega)
    show th_cnt P (T + d) + (if P (T + d) then 1 else 0) = _
    rw [e, z]; simp
theorem th_cnt_none {P : Nat → Bool} {T T' : Nat} (hT : T ≤ T') (h : ∀ q, T ≤ q → q < T' → P q = false) : th_cnt P T' = th_cnt P T := by
  obtain ⟨d, rfl⟩ := Nat.exists_eq_add_of_le hT
  exact th_cnt_gap d h
theorem th_cnt_one {P : Nat → Bool} {T T' : Nat} (q0 : Nat) (h0 : T ≤ q0) (h1 : q0 < T') (hp : P q0 = true)
    (h : ∀ q, T ≤ q → q < T' → P q = true → q = q0) : th_cnt P T' = th_cnt P T + 1 := by
  have e1 : th_cnt P q0 = th_cnt P T := th_cnt_none h0 (fun q a b => by
    cases z : P q with
    | false => rfl
    | true => have := h q a (by omega) z; omega)
  have e2 : th_cnt P T' = th_cnt P (q0 + 1) := th_cnt_none h1 (fun q a b => by
    cases z : P q with
    | false => rfl
    | true => have := h q (by omega) b z; omega)
  rw [e2, ← e1]
  show th_cnt P q0 + (if P q0 then 1 else 0) = _
  rw [hp]; simp
theorem th_cnt_ext {P Q : Nat → Bool} : ∀ n, (∀ q, q < n → P q = Q q) → th_cnt P n = th_cnt Q n
  | 0, _ => rfl
  | n + 1, h => by
    show th_cnt P n + (if P n then 1 else 0) = th_cnt Q n + (if Q n then 1 else 0)
    rw [th_cnt_ext n (fun q a => h q (by omega)), h n (by omega)]
theorem th_cnt_le (P : Nat → Bool) : ∀ n, th_cnt P n ≤ n
  | 0 => Nat.le_refl 0
  | n + 1 => by
    have := th_cnt_le P n
    show th_cnt P n + (if P n then 1 else 0) ≤ n + 1
    split <;> omega
theorem th_cnt_mono (P : Nat → Bool) {m : Nat} : ∀ n, m ≤ n → th_cnt P m ≤ th_cnt P n
  | 0, h => by have : m = 0 := by omega
               subst this; exact Nat.le_refl _
  | n + 1, h => by
    by_cases e : m = n + 1
    · subst e; exact Nat.le_refl _
    · have := th_cnt_mono P (m := m) n (by omega)
      show _ ≤ th_cnt P n + (if P n then 1 else 0)
      omega
/-- the place of set q in the list of sets -/
def th_nb (q : Nat) : Nat := th_cnt th_srt q
theorem th_nb_all : th_nb 3375 = 680 := by decide +kernel
theorem th_nb_s {q : Nat} (h : th_srt q = true) : th_nb (q + 1) = th_nb q + 1 := by
  show th_cnt th_srt q + (if th_srt q then 1 else 0) = th_cnt th_srt q + 1
  rw [h]; simp
theorem th_nb_lt {q : Nat} (hq : q < 3375) (h : th_srt q = true) : th_nb q < 680 := by
  have e := th_cnt_mono th_srt 3375 (m := q + 1) hq
  have := th_nb_s h
  have := th_nb_all
  unfold th_nb at *
  omega
theorem th_nb_ex : ∀ T s, s < th_nb T → ∃ q, q < T ∧ th_srt q = true ∧ th_nb q = s
  | 0, s, h => absurd h (by show ¬ s < 0; omega)
  | T + 1, s, h => by
    by_cases e : s < th_nb T
    · obtain ⟨q, a, b, c⟩ := th_nb_ex T s e
      exact ⟨q, by omega, b, c⟩
    · cases z : th_srt T with
      | true =>
        have := th_nb_s z
        exact ⟨T, by omega, z, by omega⟩
      | false =>
        have : th_nb (T + 1) = th_nb T := by
          show th_cnt th_srt T + (if th_srt T then 1 else 0) = th_cnt th_srt T
          rw [z]; simp
        omega
/-- a count over the list of sets is a count over the numbers -/
theorem th_cnt_nb (R : Nat → Bool) : ∀ T, th_cnt R (th_nb T) = th_cnt (fun q => th_srt q && R (th_nb q)) T
  | 0 => rfl
  | T + 1 => by
    have ih := th_cnt_nb R T
    show _ = th_cnt (fun q => th_srt q && R (th_nb q)) T + (if (th_srt T && R (th_nb T)) then 1 else 0)
    cases z : th_srt T with
    | true =>
      rw [th_nb_s z, ← ih]
      show th_cnt R (th_nb T) + (if R (th_nb T) then 1 else 0) = _
      simp
    | false =>
      have : th_nb (T + 1) = th_nb T := by
        show th_cnt th_srt T + (if th_srt T then 1 else 0) = th_cnt th_srt T
        rw [z]; simp
      rw [this, ih]; simp
theorem th_nb_no {q : Nat} (h : th_srt q = false) : th_nb (q + 1) = th_nb q := by
  show th_cnt th_srt q + (if th_srt q then 1 else 0) = th_cnt th_srt q
  rw [h]; simp
theorem th_nb_mono {q q' : Nat} (h : th_srt q = true) (l : q < q') : th_nb q < th_nb q' := by
  have e := th_cnt_mono th_srt q' (m := q + 1) l
  have := th_nb_s h
  unfold th_nb at *
  omega
theorem th_nb_inj {q q' : Nat} (h : th_srt q = true) (h' : th_srt q' = true) (e : th_nb q = th_nb q') : q = q' := by
  rcases Nat.lt_trichotomy q q' with l | l | l
  · have := th_nb_mono h l; omega
  · exact l
  · have := th_nb_mono h' l; omega
theorem th_nb_gap {T T' : Nat} (hT : T ≤ T') (h : ∀ q, T ≤ q → q < T' → th_srt q = false) : th_nb T' = th_nb T := th_cnt_none hT h
/-- the set at a place -/
noncomputable def th_qi (i : Nat) : Nat := Classical.epsilon fun q => q < 3375 ∧ th_srt q = true ∧ th_nb q = i
theorem th_qi_s {i : Nat} (hi : i < 680) : th_qi i < 3375 ∧ th_srt (th_qi i) = true ∧ th_nb (th_qi i) = i :=
  Classical.epsilon_spec (p := fun q => q < 3375 ∧ th_srt q = true ∧ th_nb q = i) (th_nb_ex 3375 i (by rw [th_nb_all]; exact hi))
theorem th_qi_nb {q : Nat} (hq : q < 3375) (h : th_srt q = true) : th_qi (th_nb q) = q := by
  have t := th_qi_s (th_nb_lt hq h)
  exact th_nb_inj t.2.1 h t.2.2
/-- a sum of the first -/
def th_ps (f : Nat → Nat) : Nat → Nat
  | 0 => 0
  | n + 1 => th_ps f n + f n
theorem th_ps9 (f : Nat → Nat) : th_ps f 9 = th_s9 f := by
  simp [th_ps, th_s9]
theorem th_cnt_or {P Q R : Nat → Bool} : ∀ n, (∀ q, q < n → R q = (P q || Q q)) → (∀ q, q < n → P q = true → Q q = false) → th_cnt R n = th_cnt P n + th_cnt Q n
  | 0, _, _ => rfl
  | n + 1, h, d => by
    have ih := th_cnt_or n (fun q a => h q (by omega)) (fun q a => d q (by omega))
    have e := h n (by omega)
    have z := d n (by omega)
    show th_cnt R n + (if R n then 1 else 0) = th_cnt P n + (if P n then 1 else 0) + (th_cnt Q n + (if Q n then 1 else 0))
    cases hp : P n with
    | true => rw [z hp, hp] at e; rw [z hp, e]; simp; omega
    | false => rw [hp] at e; cases hq : Q n with
      | true => rw [hq] at e; rw [e]; simp; omega
      | false => rw [hq] at e; rw [e]; simp; omega
end
section
/-- the hand of set q and a pair of kind p -/
def th_cv (q p k : Nat) : Nat := th_vec q k + (if k = p then 2 else 0)
def th_ok (q p : Nat) : Bool := (List.range 9).all fun k => Nat.ble (th_cv q p k) 4
theorem th_ok_iff {q p : Nat} : th_ok q p = true ↔ ∀ k, k < 9 → th_cv q p k ≤ 4 := by
  unfold th_ok
  simp only [List.all_eq_true, List.mem_range, Nat.ble_eq]
theorem th_pair_s9 : ∀ p, p < 9 → th_s9 (fun k => if k = p then 2 else 0) = 2 := by decide +kernel
theorem th_cv_s9 {q p : Nat} (h : q < 3375) (hp : p < 9) : th_s9 (th_cv q p) = 3 * th_sz q + 2 := by
  have e := th_s9_add (th_vec q) (fun k => if k = p then 2 else 0)
  rw [th_pair_s9 p hp, th_vec_s9 h] at e
  exact e
/-- a hand's number, and its digits -/
def th_hp (v : Nat → Nat) : Nat → Nat
  | 0 => 0
  | n + 1 => th_hp v n * 5 + v n
def th_code (v : Nat → Nat) : Nat := th_hp v 9
def th_dg (x k : Nat) : Nat := x / 5 ^ (8 - k) % 5
theorem th_dg_le (x k : Nat) : th_dg x k ≤ 4 := by
  have := Nat.mod_lt (x / 5 ^ (8 - k)) (show 0 < 5 by decide)
  unfold th_dg
  omega
theorem th_hp_lt {v : Nat → Nat} : ∀ n, (∀ k, k < n → v k ≤ 4) → th_hp v n < 5 ^ n
  | 0, _ => by show (0 : Nat) < 5 ^ 0; decide
  | n + 1, h => by
    have ih := th_hp_lt n (fun k hk => h k (by omega))
    have := h n (by omega)
    show th_hp v n * 5 + v n < 5 ^ (n + 1)
    rw [Nat.pow_succ]
    omega
theorem th_code_lt {v : Nat → Nat} (h : ∀ k, k < 9 → v k ≤ 4) : th_code v < 1953125 := th_hp_lt 9 h
theorem th_hp_div {v : Nat → Nat} {n : Nat} : ∀ d, (∀ k, k < n + d → v k ≤ 4) → th_hp v (n + d) / 5 ^ d = th_hp v n
  | 0, _ => by rw [Nat.pow_zero, Nat.div_one]; rfl
  | d + 1, h => by
    have ih := th_hp_div (n := n) d (fun k hk => h k (by omega))
    have z := h (n + d) (by omega)
    rw [Nat.pow_succ, Nat.mul_comm, ← Nat.div_div_eq_div_mul]
    have e : th_hp v (n + (d + 1)) / 5 = th_hp v (n + d) := by
      show (th_hp v (n + d) * 5 + v (n + d)) / 5 = _
      omega
    rw [e, ih]
theorem th_dg_code {v : Nat → Nat} (h : ∀ k, k < 9 → v k ≤ 4) : ∀ k, k < 9 → th_dg (th_code v) k = v k := by
  intro k hk
  have e := th_hp_div (v := v) (n := k + 1) (8 - k) (fun j hj => h j (by omega))
  have z := h k hk
  rw [show k + 1 + (8 - k) = 9 by omega] at e
  unfold th_dg th_code
  rw [e]
  show (th_hp v k * 5 + v k) % 5 = v k
  omega
theorem th_hp_ext {v w : Nat → Nat} : ∀ n, (∀ k, k < n → v k = w k) → th_hp v n = th_hp w n
  | 0, _ => rfl
  | n + 1, h => by
    show th_hp v n * 5 + v n = th_hp w n * 5 + w n
    rw [th_hp_ext n (fun k hk => h k (by omega)), h n (by omega)]
theorem th_code_ext {v w : Nat → Nat} (h : ∀ k, k < 9 → v k = w k) : th_code v = th_code w := th_hp_ext 9 h
theorem th_code_inj {v w : Nat → Nat} (hv : ∀ k, k < 9 → v k ≤ 4) (hw : ∀ k, k < 9 → w k ≤ 4) (e : th_code v = th_code w) : ∀ k, k < 9 → v k = w k := by
  intro k hk
  rw [← th_dg_code hv k hk, ← th_dg_code hw k hk, e]
/-- complete hands, by their numbers -/
def th_val (q p : Nat) : Bool := th_srt q && decide (th_sz q = 3) && th_ok q p
def th_CH (x : Nat) : Prop := ∃ q p, q < 3375 ∧ p < 9 ∧ th_val q p = true ∧ x = th_code (th_cv q p)
theorem th_val_iff {q p : Nat} : th_val q p = true ↔ th_srt q = true ∧ th_sz q = 3 ∧ ∀ k, k < 9 → th_cv q p k ≤ 4 := by
  unfold th_val
  rw [Bool.and_eq_true, Bool.and_eq_true, decide_eq_true_eq, th_ok_iff, and_assoc]
theorem th_CH_s9 {x : Nat} (h : th_CH x) : th_s9 (th_dg x) = 11 := by
  obtain ⟨q, p, hq, hp, hv, rfl⟩ := h
  obtain ⟨_, h3, h4⟩ := th_val_iff.mp hv
  rw [th_s9_ext (th_dg_code h4), th_cv_s9 hq hp, h3]
def th_CL : List Nat := (List.range 3375).flatMap fun q => ((List.range 9).filter (th_val q)).map fun p => th_code (th_cv q p)
theorem th_CL_iff {x : Nat} : x ∈ th_CL ↔ th_CH x := by
  unfold th_CL th_CH
  simp only [List.mem_flatMap, List.mem_map, List.mem_filter, List.mem_range]
  constructor
  · rintro ⟨q, hq, p, ⟨hp, hv⟩, e⟩
    exact ⟨q, p, hq, hp, hv, e.symm⟩
  · rintro ⟨q, p, hq, hp, hv, e⟩
    exact ⟨q, hq, p, ⟨hp, hv⟩, e.symm⟩
theorem th_CH_ne : th_CH (th_code (th_cv 17 3)) := ⟨17, 3, by decide, by decide, by decide +kernel, rfl⟩
/-- the least over a list, 11 at most -/
def th_ml (f : Nat → Nat) : List Nat → Nat
  | [] => 11
  | x :: l => if f x < th_ml f l then f x else th_ml f l
theorem th_ml_le {f : Nat → Nat} : ∀ {l : List Nat} {x : Nat}, x ∈ l → th_ml f l ≤ f x
  | y :: l, x, h => by
    unfold th_ml
    cases h with
    | head => split <;> omega
    | tail _ h => have := th_ml_le (f := f) h
                  split <;> omega
theorem th_ml_ex {f : Nat → Nat} : ∀ (l : List Nat), th_ml f l = 11 ∨ ∃ x, x ∈ l ∧ f x = th_ml f l
  | [] => Or.inl rfl
  | y :: l => by
    unfold th_ml
    split
    · exact Or.inr ⟨y, List.mem_cons_self, rfl⟩
    · rcases th_ml_ex (f := f) l with e | ⟨x, a, b⟩
      · exact Or.inl e
      · exact Or.inr ⟨x, List.mem_cons_of_mem _ a, b⟩
theorem th_ml_11 (f : Nat → Nat) : ∀ (l : List Nat), th_ml f l ≤ 11
  | [] => Nat.le_refl 11
  | y :: l => by
    have := th_ml_11 f l
    unfold th_ml
    split <;> omega
def th_miss (h : Nat → Nat) (x : Nat) : Nat := th_over (th_dg x) h
theorem th_miss_11 {h : Nat → Nat} {x : Nat} (hx : th_CH x) : th_miss h x ≤ 11 := by
  have := th_CH_s9 hx
  have : th_miss h x ≤ th_s9 (th_dg x) := th_s9_le fun k _ => Nat.sub_le _ _
  omega
def th_dist (h : Nat → Nat) : Nat := th_ml (th_miss h) th_CL
theorem th_dist_le {h : Nat → Nat} {x : Nat} (hx : th_CH x) : th_dist h ≤ th_miss h x := th_ml_le (th_CL_iff.mpr hx)
theorem th_dist_ex (h : Nat → Nat) : ∃ x, th_CH x ∧ th_miss h x = th_dist h := by
  rcases th_ml_ex (f := th_miss h) th_CL with e | ⟨x, a, b⟩
  · refine ⟨_, th_CH_ne, ?_⟩
    have h1 := th_miss_11 (h := h) th_CH_ne
    have h2 := th_dist_le (h := h) th_CH_ne
    unfold th_dist at *
    omega
  · exact ⟨x, th_CL_iff.mp a, b⟩
theorem th_dist_11 (h : Nat → Nat) : th_dist h ≤ 11 := th_ml_11 _ _
theorem th_dist_uni {h : Nat → Nat} {r : Nat} (h1 : ∃ x, th_CH x ∧ th_miss h x = r) (h2 : ∀ x, th_CH x → r ≤ th_miss h x) : r = th_dist h := by
  obtain ⟨x, a, b⟩ := h1
  obtain ⟨y, c, d⟩ := th_dist_ex h
  have := th_dist_le (h := h) a
  have := h2 y c
  omega
theorem th_dist_ge (h : Nat → Nat) : 11 - th_s9 h ≤ th_dist h := by
  obtain ⟨x, a, b⟩ := th_dist_ex h
  have := th_over_bal (th_dg x) h
  have := th_CH_s9 a
  unfold th_miss at b
  omega
theorem th_miss_ext {h h' : Nat → Nat} (e : ∀ k, k < 9 → h k = h' k) (x : Nat) : th_miss h x = th_miss h' x := by
  unfold th_miss th_over
  exact th_s9_ext fun k hk => by rw [e k hk]
theorem th_dist_ext {h h' : Nat → Nat} (e : ∀ k, k < 9 → h k = h' k) : th_dist h = th_dist h' := by
  refine th_dist_uni ?_ ?_
  · obtain ⟨x, a, b⟩ := th_dist_ex h
    exact ⟨x, a, by rw [← b, th_miss_ext e]⟩
  · intro x hx
    rw [← th_miss_ext e]
    exact th_dist_le hx
/-- the wanted kinds -/
def th_want (h : Nat → Nat) (k : Nat) : Bool := th_CL.any fun x => decide (th_miss h x = th_dist h) && decide (h k < th_dg x k)
theorem th_want_iff {h : Nat → Nat} {k : Nat} : th_want h k = true ↔ ∃ x, th_CH x ∧ th_miss h x = th_dist h ∧ h k < th_dg x k := by
  unfold th_want
  simp only [List.any_eq_true, Bool.and_eq_true, decide_eq_true_eq]
  constructor
  · rintro ⟨x, a, b, c⟩
    exact ⟨x, th_CL_iff.mp a, b, c⟩
  · rintro ⟨x, a, b, c⟩
    exact ⟨x, th_CL_iff.mpr a, b, c⟩
theorem th_want_4 {h : Nat → Nat} {k : Nat} (w : th_want h k = true) : h k < 4 := by
  obtain ⟨x, _, _, c⟩ := th_want_iff.mp w
  have := th_dg_le x k
  omega
theorem th_miss_put (h : Nat → Nat) (x : Nat) {k : Nat} (hk : k < 9) :
    th_miss (th_put h k (h k + 1)) x + (if h k < th_dg x k then 1 else 0) = th_miss h x := by
  have e := th_s9_put (fun j y => th_dg x j - y) h (h k + 1) k hk
  unfold th_miss th_over
  split <;> omega
/-- a kind is wanted just where one tile of it more brings the hand nearer -/
theorem th_near {h : Nat → Nat} {k : Nat} (hk : k < 9) : th_dist (th_put h k (h k + 1)) < th_dist h ↔ th_want h k = true := by
  rw [th_want_iff]
  constructor
  · intro l
    obtain ⟨x, a, b⟩ := th_dist_ex (th_put h k (h k + 1))
    have e := th_miss_put h x hk
    have d := th_dist_le (h := h) a
    refine ⟨x, a, ?_, ?_⟩
    · split at e <;> omega
    · split at e
      · assumption
      · omega
  · rintro ⟨x, a, b, c⟩
    have e := th_miss_put h x hk
    have d := th_dist_le (h := th_put h k (h k + 1)) a
    rw [if_pos c] at e
    omega
def th_hope (h : Nat → Nat) : Nat := th_s9 fun k => if th_want h k then 4 - h k else 0
theorem th_hope_36 (h : Nat → Nat) : th_hope h ≤ 36 := by
  have := th_s9_le (f := fun k => if th_want h k then 4 - h k else 0) (g := fun _ => 4) (fun k _ => by split <;> omega)
  exact this
/-- the set of those k below n with P k, as the programs make it -/
def th_mk (P : Nat → Bool) : Nat → Int32
  | 0 => 0
  | n + 1 => if P n then th_mk P n ||| ((1 : Int32) <<< (nI n &&& 31)) else th_mk P n
end
section
-- level l, prefix g0 g1 (taken), e the next candidate at this level; all sorted q < T are done.
def th_n0 (l g0 e : Nat) : Nat := if l = 0 then e else g0
def th_n1 (l g1 e : Nat) : Nat := if l = 0 then g1 else e
/-- the group taken last -/
def th_gl (l g0 g1 : Nat) : Nat := if l = 1 then g0 else g1
def th_T (l g0 g1 e : Nat) : Nat := if l = 0 then e * 225 else if l = 1 then g0 * 225 + e * 15 else g0 * 225 + g1 * 15 + e
def th_ch (base : Nat → Nat) (l g0 g1 k : Nat) : Nat := base k + (if 1 ≤ l then th_G g0 k else 0) + (if 2 ≤ l then th_G g1 k else 0)
def th_wf (l g0 g1 e : Nat) : Prop := l ≤ 2 ∧ e ≤ 14 ∧ (1 ≤ l → g0 ≤ 13 ∧ g0 ≤ e) ∧ (2 ≤ l → g0 ≤ g1 ∧ g1 ≤ 13 ∧ g1 ≤ e)
theorem th_T_lt {l g0 g1 e : Nat} (w : th_wf l g0 g1 e) : th_T l g0 g1 e < 3375 := by
  obtain ⟨w1, w2, w3, w4⟩ := w
  unfold th_T
  split
  · omega
  · split
    · have := w3 (by omega); omega
    · have := w3 (by omega); have := w4 (by omega); omega
theorem th_step_le {l g0 g1 e : Nat} : th_T l g0 g1 e ≤ th_T l g0 g1 (e + 1) := by
  unfold th_T
  split
  · omega
  · split <;> omega
/-- between e and e + 1: all have the prefix and e -/
theorem th_gap {base : Nat → Nat} {l g0 g1 e q : Nat} (w : th_wf l g0 g1 e) (he : e ≤ 13) (a : th_T l g0 g1 e ≤ q) (b : q < th_T l g0 g1 (e + 1)) (k : Nat) :
    th_ch base l g0 g1 k + th_G e k ≤ base k + th_vec q k := by
  obtain ⟨w1, w2, w3, w4⟩ := w
  unfold th_T at a b
  unfold th_ch th_vec th_a th_b th_c
  rcases (show l = 0 ∨ l = 1 ∨ l = 2 by omega) with rfl | rfl | rfl
  · simp at a b ⊢
    have : q / 225 = e := by omega
    rw [this]; omega
  · simp at a b ⊢
    have := w3 (by omega)
    have e1 : q / 225 = g0 := by omega
    have e2 : q / 15 % 15 = e := by omega
    rw [e1, e2]; omega
  · simp at a b ⊢
    have := w3 (by omega)
    have := w4 (by omega)
    have e1 : q / 225 = g0 := by omega
    have e2 : q / 15 % 15 = g1 := by omega
    have e3 : q % 15 = e := by omega
    rw [e1, e2, e3]; omega
/-- going deeper passes over none -/
theorem th_deep {l g0 g1 e q : Nat} (w : th_wf l g0 g1 e) (he : e ≤ 13) (hl : l < 2) (a : th_T l g0 g1 e ≤ q)
    (b : q < th_T (l + 1) (th_n0 l g0 e) (th_n1 l g1 e) e) : th_srt q = false := by
  obtain ⟨w1, w2, w3, w4⟩ := w
  rw [th_srt_no]
  unfold th_T th_n0 th_n1 at *
  rcases (show l = 0 ∨ l = 1 by omega) with rfl | rfl
  · simp at a b; omega
  · have := w3 (by omega)
    simp at a b; omega
/-- going up passes over the prefix alone -/
theorem th_up {l g0 g1 q : Nat} (w : th_wf l g0 g1 14) (hl : 1 ≤ l) (a : th_T l g0 g1 14 ≤ q)
    (b : q < th_T (l - 1) g0 g1 (th_gl l g0 g1 + 1)) (s : th_srt q = true) : th_sz q = l := by
  obtain ⟨w1, w2, w3, w4⟩ := w
  rw [th_srt_iff] at s
  unfold th_T th_gl at *
  unfold th_sz th_one th_a th_b th_c
  have := w3 hl
  rcases (show l = 1 ∨ l = 2 by omega) with rfl | rfl
  · simp at a b
    have e1 : q / 225 = g0 := by omega
    have e2 : q / 15 % 15 = 14 := by omega
    have e3 : q % 15 = 14 := by omega
    rw [e1, e2, e3]; simp; omega
  · have := w4 (by omega)
    simp at a b
    have e1 : q / 225 = g0 := by omega
    have e2 : q / 15 % 15 = g1 := by omega
    have e3 : q % 15 = 14 := by omega
    rw [e1, e2, e3]; simp [show g0 < 14 by omega, show g1 < 14 by omega]
/-- the end passes over the empty set alone -/
theorem th_end {q : Nat} (a : th_T 0 0 0 14 ≤ q) (b : q < 3375) (s : th_srt q = true) : th_sz q = 0 := by
  rw [th_srt_iff] at s
  unfold th_T at a
  simp at a
  unfold th_sz th_one th_a th_b th_c
  have e1 : q / 225 = 14 := by omega
  have e2 : q / 15 % 15 = 14 := by omega
  have e3 : q % 15 = 14 := by omega
  rw [e1, e2, e3]; simp

/-- the set that is the prefix and e alone -/
def th_wq (l g0 g1 e : Nat) : Nat := if l = 0 then e * 225 + 224 else if l = 1 then g0 * 225 + e * 15 + 14 else g0 * 225 + g1 * 15 + e
theorem th_wq_s {l g0 g1 e : Nat} (w : th_wf l g0 g1 e) (he : e ≤ 13) : th_srt (th_wq l g0 g1 e) = true ∧ th_sz (th_wq l g0 g1 e) = l + 1 ∧
    th_T l g0 g1 e ≤ th_wq l g0 g1 e ∧ th_wq l g0 g1 e < th_T l g0 g1 (e + 1) ∧ th_wq l g0 g1 e < 3375 ∧
    ∀ (base : Nat → Nat) (k : Nat), base k + th_vec (th_wq l g0 g1 e) k = th_ch base l g0 g1 k + th_G e k := by
  obtain ⟨w1, w2, w3, w4⟩ := w
  rw [th_srt_iff]
  unfold th_T th_wq th_ch th_sz th_vec th_one th_a th_b th_c
  have z : ∀ k, th_G 14 k = 0 := fun k => by simp [th_G]
  rcases (show l = 0 ∨ l = 1 ∨ l = 2 by omega) with rfl | rfl | rfl
  · simp
    have e1 : (e * 225 + 224) / 225 = e := by omega
    have e2 : (e * 225 + 224) / 15 % 15 = 14 := by omega
    have e3 : (e * 225 + 224) % 15 = 14 := by omega
    rw [e1, e2, e3]
    simp [z, show e < 14 by omega]
    omega
  · simp
    have := w3 (by omega)
    have e1 : (g0 * 225 + e * 15 + 14) / 225 = g0 := by omega
    have e2 : (g0 * 225 + e * 15 + 14) / 15 % 15 = e := by omega
    have e3 : (g0 * 225 + e * 15 + 14) % 15 = 14 := by omega
    rw [e1, e2, e3]
    simp [z, show e < 14 by omega, show g0 < 14 by omega]
    refine ⟨by omega, by omega, by omega, fun _ _ => by omega⟩
  · simp
    have := w3 (by omega)
    have := w4 (by omega)
    have e1 : (g0 * 225 + g1 * 15 + e) / 225 = g0 := by omega
    have e2 : (g0 * 225 + g1 * 15 + e) / 15 % 15 = g1 := by omega
    have e3 : (g0 * 225 + g1 * 15 + e) % 15 = e := by omega
    rw [e1, e2, e3]
    simp [show e < 14 by omega, show g0 < 14 by omega, show g1 < 14 by omega]
    refine ⟨by omega, by omega, fun _ _ => by omega⟩
theorem th_wq_u {l g0 g1 e q : Nat} (w : th_wf l g0 g1 e) (he : e ≤ 13) (a : th_T l g0 g1 e ≤ q) (b : q < th_T l g0 g1 (e + 1)) (s : th_srt q = true)
    (z : th_sz q = l + 1) : q = th_wq l g0 g1 e := by
  obtain ⟨w1, w2, w3, w4⟩ := w
  rw [th_srt_iff] at s
  unfold th_T at a b
  unfold th_sz th_one th_a th_b th_c at z
  unfold th_wq
  rcases (show l = 0 ∨ l = 1 ∨ l = 2 by omega) with rfl | rfl | rfl
  · simp at a b ⊢
    have e1 : q / 225 = e := by omega
    rw [e1] at z s
    rw [if_pos (show e < 14 by omega)] at z
    by_cases h : q / 15 % 15 < 14
    · rw [if_pos h] at z; omega
    · omega
  · have := w3 (by omega)
    simp at a b ⊢
    have e1 : q / 225 = g0 := by omega
    have e2 : q / 15 % 15 = e := by omega
    rw [e1, e2] at z s
    rw [if_pos (show e < 14 by omega), if_pos (show g0 < 14 by omega)] at z
    by_cases h : q % 15 < 14
    · rw [if_pos h] at z; omega
    · omega
  · simp at a b ⊢
    omega
/-- in the gap at the last level there is the leaf alone -/
theorem th_leaf {g0 g1 e q : Nat} (a : th_T 2 g0 g1 e ≤ q) (b : q < th_T 2 g0 g1 (e + 1)) : q = th_wq 2 g0 g1 e := by
  unfold th_T at a b
  unfold th_wq
  simp at a b ⊢
  omega
theorem th_ch_deep {base : Nat → Nat} {l g0 g1 e : Nat} (hl : l < 2) (k : Nat) : th_ch base (l + 1) (th_n0 l g0 e) (th_n1 l g1 e) k = th_ch base l g0 g1 k + th_G e k := by
  unfold th_ch th_n0 th_n1
  rcases (show l = 0 ∨ l = 1 by omega) with rfl | rfl
  · simp
  · simp
theorem th_wf_deep {l g0 g1 e : Nat} (w : th_wf l g0 g1 e) (he : e ≤ 13) (hl : l < 2) : th_wf (l + 1) (th_n0 l g0 e) (th_n1 l g1 e) e := by
  obtain ⟨w1, w2, w3, w4⟩ := w
  unfold th_n0 th_n1 th_wf
  rcases (show l = 0 ∨ l = 1 by omega) with rfl | rfl
  · simp <;> omega
  · have := w3 (by omega)
    simp; omega
theorem th_wf_next {l g0 g1 e : Nat} (w : th_wf l g0 g1 e) (he : e ≤ 13) : th_wf l g0 g1 (e + 1) := by
  obtain ⟨w1, w2, w3, w4⟩ := w
  exact ⟨w1, by omega, fun h => by have := w3 h; omega, fun h => by have := w4 h; omega⟩
theorem th_wf_up {l g0 g1 e : Nat} (w : th_wf l g0 g1 e) (hl : 1 ≤ l) : th_wf (l - 1) g0 g1 (th_gl l g0 g1 + 1) ∧ th_gl l g0 g1 ≤ 13 := by
  obtain ⟨w1, w2, w3, w4⟩ := w
  have := w3 hl
  unfold th_gl th_wf
  rcases (show l = 1 ∨ l = 2 by omega) with rfl | rfl
  · simp <;> omega
  · have := w4 (by omega)
    simp; omega
theorem th_ch_up {base : Nat → Nat} {l g0 g1 : Nat} (hl : 1 ≤ l) (h2 : l ≤ 2) (k : Nat) : th_ch base l g0 g1 k = th_ch base (l - 1) g0 g1 k + th_G (th_gl l g0 g1) k := by
  unfold th_ch th_gl
  rcases (show l = 1 ∨ l = 2 by omega) with rfl | rfl
  · simp
  · simp
theorem th_T_deep {l g0 g1 e : Nat} (hl : l < 2) : th_T l g0 g1 e ≤ th_T (l + 1) (th_n0 l g0 e) (th_n1 l g1 e) e := by
  unfold th_T th_n0 th_n1
  rcases (show l = 0 ∨ l = 1 by omega) with rfl | rfl
  · simp <;> omega
  · simp
theorem th_T_next {l g0 g1 e : Nat} : th_T l g0 g1 e < th_T l g0 g1 (e + 1) := by
  unfold th_T
  split
  · omega
  · split <;> omega
theorem th_T_up {l g0 g1 : Nat} (w : th_wf l g0 g1 14) (hl : 1 ≤ l) : th_T l g0 g1 14 < th_T (l - 1) g0 g1 (th_gl l g0 g1 + 1) := by
  obtain ⟨w1, w2, w3, w4⟩ := w
  have := w3 hl
  unfold th_T th_gl
  rcases (show l = 1 ∨ l = 2 by omega) with rfl | rfl
  · simp <;> omega
  · have := w4 (by omega)
    simp; omega
/-- the measure of a search -/
def th_mu (l g0 g1 e : Nat) : Nat := 4 * (3375 - th_T l g0 g1 e) + (3 - l)
theorem th_mu_deep {l g0 g1 e : Nat} (hl : l < 2) : th_mu (l + 1) (th_n0 l g0 e) (th_n1 l g1 e) e < th_mu l g0 g1 e := by
  have := th_T_deep (l := l) (g0 := g0) (g1 := g1) (e := e) hl
  unfold th_mu
  omega
theorem th_mu_next {l g0 g1 e : Nat} (w : th_wf l g0 g1 e) : th_mu l g0 g1 (e + 1) < th_mu l g0 g1 e := by
  have := th_T_next (l := l) (g0 := g0) (g1 := g1) (e := e)
  have := th_T_lt w
  unfold th_mu
  omega
theorem th_mu_up {l g0 g1 : Nat} (w : th_wf l g0 g1 14) (hl : 1 ≤ l) : th_mu (l - 1) g0 g1 (th_gl l g0 g1 + 1) < th_mu l g0 g1 14 := by
  have := th_T_up w hl
  have := th_T_lt w
  have := w.1
  unfold th_mu
  omega
theorem th_ch_s9 {base : Nat → Nat} {l g0 g1 e : Nat} (w : th_wf l g0 g1 e) : th_s9 (th_ch base l g0 g1) = th_s9 base + 3 * l := by
  obtain ⟨w1, w2, w3, w4⟩ := w
  have e0 : 1 ≤ l → th_s9 (th_G g0) = 3 := fun h => by
    have := w3 h
    rw [th_G_s9 g0 (by omega), th_one, if_pos (by omega)]
  have e1 : 2 ≤ l → th_s9 (th_G g1) = 3 := fun h => by
    have := w4 h
    rw [th_G_s9 g1 (by omega), th_one, if_pos (by omega)]
  rcases (show l = 0 ∨ l = 1 ∨ l = 2 by omega) with rfl | rfl | rfl
  · exact th_s9_ext fun k _ => by simp [th_ch]
  · have : th_s9 (th_ch base 1 g0 g1) = th_s9 (fun k => base k + th_G g0 k) := th_s9_ext fun k _ => by simp [th_ch]
    rw [this, th_s9_add, e0 (by omega)]
  · have : th_s9 (th_ch base 2 g0 g1) = th_s9 (fun k => (fun k => base k + th_G g0 k) k + th_G g1 k) := th_s9_ext fun k _ => by simp [th_ch]
    rw [this, th_s9_add, th_s9_add, e0 (by omega), e1 (by omega)]
end
section
/-- can the tiles w be divided into groups (greedily, kind by kind; r1, r2: runs begun one, two kinds before) -/
def th_dv (w : Nat → Nat) : Nat → Nat → Nat → Nat → Bool
  | 0, _, _, _ => true
  | n + 1, k, r1, r2 =>
    if w k < r1 + r2 then false
    else if 4 < k ∧ 0 < (w k - (r1 + r2)) % 3 then false
    else th_dv w n (k + 1) ((w k - (r1 + r2)) % 3) r1
/-- the tiles without a pair -/
def th_sub (w : Nat → Nat) (r : Nat) : Nat → Nat := fun k => if k = r then w k - 2 else w k
def th_dvp (w : Nat → Nat) (r : Nat) : Bool := decide (2 ≤ w r) && th_dv (th_sub w r) 9 0 0 0
/-- the set of groups that the greedy division finds: triplets t, runs r, m = 15 to the number of runs -/
def th_cq (w : Nat → Nat) : Nat → Nat → Nat → Nat → Nat → Nat → Nat → Nat
  | 0, _, _, _, t, r, m => t * m + r
  | n + 1, k, r1, r2, t, r, m =>
    th_cq w n (k + 1) ((w k - (r1 + r2)) % 3) r1 (if (w k - (r1 + r2)) / 3 = 0 then t else t * 15 + k)
      (if (w k - (r1 + r2)) % 3 = 0 then r else if (w k - (r1 + r2)) % 3 = 1 then r * 15 + (k + 9) else (r * 15 + (k + 9)) * 15 + (k + 9))
      (if (w k - (r1 + r2)) % 3 = 0 then m else if (w k - (r1 + r2)) % 3 = 1 then m * 15 else m * 225)
def th_trip (q : Nat) : Bool := decide (8 < th_a q) && decide (th_a q = th_b q) && decide (th_a q = th_c q)
/-- the least pair -/
def th_fp (w : Nat → Nat) : Nat → Nat → Nat
  | 0, p => p
  | n + 1, p => if th_dvp w p then p else th_fp w n (p + 1)
def th_ckz (q p x p' q' : Nat) : Bool := decide (q' < 3375) && decide (p' < 9) && th_val q' p' && !th_trip q' && decide (th_code (th_cv q' p') = x) && (th_trip q || !decide (p' = p) || decide (q' = q))
def th_cky (q p x p' : Nat) : Bool := th_ckz q p x p' (th_cq (th_sub (th_dg x) p') 9 0 0 0 0 0 1)
def th_ckx (q p x : Nat) : Bool := th_dvp (th_dg x) p && th_cky q p x (th_fp (th_dg x) 9 0)
def th_ck (q p : Nat) : Bool := !th_val q p || th_ckx q p (th_code (th_cv q p))
def th_ckr (a b : Nat) : Bool := (List.range b).all fun i => (List.range 9).all (th_ck (a + i))
theorem th_ck_1 : th_ckr 0 225 = true := by decide +kernel
theorem th_ck_2 : th_ckr 225 450 = true := by decide +kernel
theorem th_ck_3 : th_ckr 675 900 = true := by decide +kernel
theorem th_ck_4 : th_ckr 1575 1800 = true := by decide +kernel
end
section
theorem th_ckr_u {a b q p : Nat} (h : th_ckr a b = true) (h1 : a ≤ q) (h2 : q < a + b) (hp : p < 9) : th_ck q p = true := by
  unfold th_ckr at h
  simp only [List.all_eq_true, List.mem_range] at h
  have := h (q - a) (by omega) p hp
  rwa [show a + (q - a) = q by omega] at this
theorem th_ck_all {q p : Nat} (hq : q < 3375) (hp : p < 9) : th_ck q p = true := by
  by_cases h1 : q < 225
  · exact th_ckr_u th_ck_1 (by omega) (by omega) hp
  · by_cases h2 : q < 675
    · exact th_ckr_u th_ck_2 (by omega) (by omega) hp
    · by_cases h3 : q < 1575
      · exact th_ckr_u th_ck_3 (by omega) (by omega) hp
      · exact th_ckr_u th_ck_4 (by omega) (by omega) hp
theorem th_dv_ext {w w' : Nat → Nat} : ∀ n k r1 r2, (∀ j, j < k + n → w j = w' j) → th_dv w n k r1 r2 = th_dv w' n k r1 r2
  | 0, _, _, _, _ => rfl
  | n + 1, k, r1, r2, h => by
    unfold th_dv
    rw [h k (by omega)]
    split
    · rfl
    · split
      · rfl
      · exact th_dv_ext n (k + 1) _ _ (fun j hj => h j (by omega))
theorem th_dvp_ext {w w' : Nat → Nat} {r : Nat} (hr : r < 9) (h : ∀ j, j < 9 → w j = w' j) : th_dvp w r = th_dvp w' r := by
  unfold th_dvp
  rw [h r hr, th_dv_ext 9 0 0 0 (w := th_sub w r) (w' := th_sub w' r)]
  intro j hj
  unfold th_sub
  rw [h j (by omega)]
theorem th_fp_lo {w : Nat → Nat} : ∀ n p r, p ≤ r → r < th_fp w n p → th_dvp w r = false
  | 0, p, r, h1, h2 => absurd h2 (by show ¬ r < p; omega)
  | n + 1, p, r, h1, h2 => by
    unfold th_fp at h2
    cases e : th_dvp w p with
    | true => rw [e] at h2; simp at h2; omega
    | false =>
      rw [e] at h2
      simp at h2
      by_cases z : r = p
      · rw [z]; exact e
      · exact th_fp_lo n (p + 1) r (by omega) h2
theorem th_fp_at {w : Nat → Nat} : ∀ n p, th_fp w n p < p + n → th_dvp w (th_fp w n p) = true
  | 0, p, h => absurd h (by show ¬ p < p + 0; omega)
  | n + 1, p, h => by
    unfold th_fp at h ⊢
    cases e : th_dvp w p with
    | true => simp [e]
    | false =>
      rw [e] at h
      simp at h ⊢
      exact th_fp_at n (p + 1) (by omega)
/-- the reference counts the hand of q and p -/
def th_cn (q p : Nat) : Bool := !th_trip q && (List.range p).all fun r => !th_dvp (th_cv q p) r
theorem th_cn_iff {q p : Nat} : th_cn q p = true ↔ th_trip q = false ∧ ∀ r, r < p → th_dvp (th_cv q p) r = false := by
  unfold th_cn
  simp only [Bool.and_eq_true, Bool.not_eq_true', List.all_eq_true, List.mem_range]
theorem th_val_dg {q p : Nat} (h : th_val q p = true) {r : Nat} (hr : r < 9) : th_dvp (th_dg (th_code (th_cv q p))) r = th_dvp (th_cv q p) r :=
  th_dvp_ext hr (th_dg_code (th_val_iff.mp h).2.2)
/-- what the check says of a pair (q, p) -/
theorem th_ck_use {q p : Nat} (hq : q < 3375) (hp : p < 9) (h : th_val q p = true) : ∃ p' q', p' = th_fp (th_dg (th_code (th_cv q p))) 9 0 ∧
    q' = th_cq (th_sub (th_dg (th_code (th_cv q p))) p') 9 0 0 0 0 0 1 ∧
    th_dvp (th_dg (th_code (th_cv q p))) p = true ∧ q' < 3375 ∧ p' < 9 ∧ th_val q' p' = true ∧ th_trip q' = false ∧ th_code (th_cv q' p') = th_code (th_cv q p) ∧
    (th_trip q = true ∨ p' ≠ p ∨ q' = q) := by
  have c := th_ck_all hq hp
  unfold th_ck at c
  rw [h] at c
  simp only [Bool.not_true, Bool.false_or] at c
  unfold th_ckx th_cky at c
  rw [Bool.and_eq_true] at c
  refine ⟨_, _, rfl, rfl, c.1, ?_⟩
  have d := c.2
  unfold th_ckz at d
  simp only [Bool.and_eq_true, Bool.or_eq_true, Bool.not_eq_true', decide_eq_true_eq, decide_eq_false_iff_not, or_assoc] at d
  exact ⟨d.1.1.1.1.1, d.1.1.1.1.2, d.1.1.1.2, d.1.1.2, d.1.2, d.2⟩
theorem th_C1 {q p : Nat} (hq : q < 3375) (hp : p < 9) (h : th_val q p = true) : ∃ q' p', q' < 3375 ∧ p' < 9 ∧ th_val q' p' = true ∧ th_cn q' p' = true ∧
    th_code (th_cv q' p') = th_code (th_cv q p) := by
  obtain ⟨p', q', e1, e2, c0, c1, c2, c3, c4, c5, c6⟩ := th_ck_use hq hp h
  refine ⟨q', p', c1, c2, c3, th_cn_iff.mpr ⟨c4, fun r hr => ?_⟩, c5⟩
  rw [← th_val_dg c3 (by omega), c5]
  exact th_fp_lo 9 0 r (by omega) (by rw [← e1]; exact hr)
theorem th_C2a {q p : Nat} (hq : q < 3375) (hp : p < 9) (h : th_val q p = true) (c : th_cn q p = true) :
    p = th_fp (th_dg (th_code (th_cv q p))) 9 0 ∧ q = th_cq (th_sub (th_dg (th_code (th_cv q p))) p) 9 0 0 0 0 0 1 := by
  obtain ⟨p', q', e1, e2, c0, c1, c2, c3, c4, c5, c6⟩ := th_ck_use hq hp h
  obtain ⟨n1, n2⟩ := th_cn_iff.mp c
  have ep : p' = p := by
    rcases Nat.lt_trichotomy p' p with l | l | l
    · have z := th_fp_at (w := th_dg (th_code (th_cv q p))) 9 0 (by rw [← e1]; omega)
      rw [← e1, th_val_dg h c2, n2 p' l] at z
      cases z
    · exact l
    · have z := th_fp_lo (w := th_dg (th_code (th_cv q p))) 9 0 p (by omega) (by rw [← e1]; exact l)
      rw [c0] at z
      cases z
  subst ep
  refine ⟨e1, ?_⟩
  rcases c6 with z | z | z
  · rw [n1] at z; cases z
  · exact absurd rfl z
  · rw [← e2, z]
theorem th_C2 {q p q' p' : Nat} (hq : q < 3375) (hp : p < 9) (h : th_val q p = true) (c : th_cn q p = true) (hq' : q' < 3375) (hp' : p' < 9) (h' : th_val q' p' = true) (c' : th_cn q' p' = true)
    (e : th_code (th_cv q p) = th_code (th_cv q' p')) : q = q' ∧ p = p' := by
  obtain ⟨a1, a2⟩ := th_C2a hq hp h c
  obtain ⟨b1, b2⟩ := th_C2a hq' hp' h' c'
  have ep : p = p' := by rw [a1, b1, e]
  subst ep
  exact ⟨by rw [a2, b2, e], rfl⟩
/-- lists -/
theorem th_nd_map {l : List Nat} {f : Nat → Nat} (nd : l.Nodup) (inj : ∀ a, a ∈ l → ∀ b, b ∈ l → f a = f b → a = b) : (l.map f).Nodup := by
  rw [List.nodup_iff_pairwise_ne, List.pairwise_map]
  exact List.Pairwise.imp_of_mem (fun {a b} ha hb n e => n (inj a ha b hb e)) nd
theorem th_cnt_range (P : Nat → Bool) : ∀ n, (List.range n).countP P = th_cnt P n
  | 0 => rfl
  | n + 1 => by
    rw [List.range_succ, List.countP_append, th_cnt_range P n]
    show _ = th_cnt P n + (if P n then 1 else 0)
    cases e : P n <;> simp [e]
theorem th_sum_range (f : Nat → Nat) : ∀ n, ((List.range n).map f).sum = th_ps f n
  | 0 => rfl
  | n + 1 => by
    rw [List.range_succ, List.map_append, List.sum_append, th_sum_range f n]
    simp [th_ps]
def th_LY : List Nat := (List.range 9).flatMap fun p => ((List.range 3375).filter fun q => th_val q p && th_cn q p).map fun q => th_code (th_cv q p)
theorem th_LY_mem {x : Nat} : x ∈ th_LY ↔ th_CH x := by
  unfold th_LY th_CH
  simp only [List.mem_flatMap, List.mem_map, List.mem_filter, List.mem_range, Bool.and_eq_true]
  constructor
  · rintro ⟨p, hp, q, ⟨hq, hv, hc⟩, e⟩
    exact ⟨q, p, hq, hp, hv, e.symm⟩
  · rintro ⟨q, p, hq, hp, hv, e⟩
    obtain ⟨q', p', a1, a2, a3, a4, a5⟩ := th_C1 hq hp hv
    exact ⟨p', a2, q', ⟨a1, a3, a4⟩, by rw [a5, e]⟩
theorem th_LY_nd : th_LY.Nodup := by
  unfold th_LY
  rw [List.nodup_iff_pairwise_ne, List.pairwise_flatMap]
  constructor
  · intro p hp
    refine th_nd_map (List.Pairwise.filter _ (List.nodup_iff_pairwise_ne.mp List.nodup_range)) ?_
    intro a ha b hb e
    simp only [List.mem_filter, List.mem_range, Bool.and_eq_true] at ha hb hp
    exact (th_C2 ha.1 hp ha.2.1 ha.2.2 hb.1 hp hb.2.1 hb.2.2 e).1
  · refine List.Pairwise.imp_of_mem ?_ (List.nodup_iff_pairwise_ne.mp List.nodup_range)
    intro p p' hp hp' n x hx y hy e
    simp only [List.mem_map, List.mem_filter, List.mem_range, Bool.and_eq_true] at hx hy hp hp'
    obtain ⟨q, hq, e1⟩ := hx
    obtain ⟨q', hq', e2⟩ := hy
    exact n (th_C2 hq.1 hp hq.2.1 hq.2.2 hq'.1 hp' hq'.2.1 hq'.2.2 (by rw [e1, e2, e])).2
/-- any list of the complete hands without repetition counts as the reference does -/
theorem th_compl {m : Nat} {l : Nat → Nat} (inj : ∀ i j, i < m → j < m → l i = l j → i = j) (mem : ∀ x, th_CH x ↔ ∃ i, i < m ∧ l i = x) (P : Nat → Bool) :
    th_cnt (fun i => P (l i)) m = th_ps (fun p => th_cnt (fun q => th_val q p && th_cn q p && P (th_code (th_cv q p))) 3375) 9 := by
  have nd : ((List.range m).map l).Nodup := by
    refine th_nd_map List.nodup_range ?_
    intro a ha b hb e
    exact inj a b (List.mem_range.mp ha) (List.mem_range.mp hb) e
  have pm : ((List.range m).map l).Perm th_LY := by
    rw [List.perm_ext_iff_of_nodup nd th_LY_nd]
    intro x
    rw [th_LY_mem, mem x]
    simp only [List.mem_map, List.mem_range]
  have e := List.Perm.countP_eq P pm
  rw [List.countP_map, th_cnt_range] at e
  have e' : th_cnt (fun i => P (l i)) m = th_LY.countP P := e
  rw [e']
  unfold th_LY
  rw [List.countP_flatMap, th_sum_range]
  have : ∀ n, th_ps (List.countP P ∘ fun p => ((List.range 3375).filter fun q => th_val q p && th_cn q p).map fun q => th_code (th_cv q p)) n =
      th_ps (fun p => th_cnt (fun q => th_val q p && th_cn q p && P (th_code (th_cv q p))) 3375) n := by
    intro n
    induction n with
    | zero => rfl
    | succ n ih =>
      unfold th_ps
      rw [ih]
      congr 1
      show List.countP P (((List.range 3375).filter fun q => th_val q n && th_cn q n).map fun q => th_code (th_cv q n)) = _
      rw [List.countP_map, List.countP_filter, th_cnt_range]
      exact th_cnt_ext 3375 (fun q _ => by
        show (P (th_code (th_cv q n)) && (th_val q n && th_cn q n)) = (th_val q n && th_cn q n && P (th_code (th_cv q n)))
        rw [Bool.and_comm])
  exact this 9
end
section
/-! the reference: begin, take, giveBack, tile, takeGroup, giveGroup, fits -/
def th_YC (h c : Nat → Nat) (lk lf : Int32) (hv ch : Nat → Int32) : Prop :=
  (∀ k, k < 9 → hv k = nI (h k) ∧ h k ≤ 20) ∧ (∀ k, k < 9 → ch k = nI (c k) ∧ c k ≤ 20) ∧ lk = nI (th_over c h) ∧ lf = nI (th_over h c)
theorem th_YC_ext {h c c' : Nat → Nat} {lk lf : Int32} {hv ch : Nat → Int32} (e : ∀ k, k < 9 → c k = c' k) (Y : th_YC h c lk lf hv ch) : th_YC h c' lk lf hv ch := by
  obtain ⟨a, b, d, f⟩ := Y
  refine ⟨a, fun k hk => ?_, ?_, ?_⟩
  · rw [← e k hk]; exact b k hk
  · rw [d]; congr 1; exact th_s9_ext fun k hk => by rw [e k hk]
  · rw [f]; congr 1; exact th_s9_ext fun k hk => by rw [e k hk]
def th_inc (c : Nat → Nat) (j : Nat) : Nat → Nat := fun k => c k + (if k = j then 1 else 0)
def th_dec (c : Nat → Nat) (j : Nat) : Nat → Nat := fun k => c k - (if k = j then 1 else 0)
theorem th_inc_put {c : Nat → Nat} {j : Nat} (k : Nat) : th_inc c j k = th_put c j (c j + 1) k := by
  unfold th_inc th_put
  split
  · rename_i e; rw [e]
  · rfl
theorem th_dec_put {c : Nat → Nat} {j : Nat} (k : Nat) : th_dec c j k = th_put c j (c j - 1) k := by
  unfold th_dec th_put
  split
  · rename_i e; rw [e]
  · rfl
theorem th_over_inc {c h : Nat → Nat} {j : Nat} (hj : j < 9) : th_over (th_inc c j) h + (c j - h j) = th_over c h + (c j + 1 - h j) ∧
    th_over h (th_inc c j) + (h j - c j) = th_over h c + (h j - (c j + 1)) := by
  have a := th_s9_put (fun k y => y - h k) c (c j + 1) j hj
  have b := th_s9_put (fun k y => h k - y) c (c j + 1) j hj
  have a' : th_over (th_inc c j) h = th_s9 (fun k => th_put c j (c j + 1) k - h k) := th_s9_ext fun k _ => by rw [th_inc_put]
  have b' : th_over h (th_inc c j) = th_s9 (fun k => h k - th_put c j (c j + 1) k) := th_s9_ext fun k _ => by rw [th_inc_put]
  rw [a', b']
  exact ⟨a, b⟩
theorem th_over_dec {c h : Nat → Nat} {j : Nat} (hj : j < 9) : th_over (th_dec c j) h + (c j - h j) = th_over c h + (c j - 1 - h j) ∧
    th_over h (th_dec c j) + (h j - c j) = th_over h c + (h j - (c j - 1)) := by
  have a := th_s9_put (fun k y => y - h k) c (c j - 1) j hj
  have b := th_s9_put (fun k y => h k - y) c (c j - 1) j hj
  have a' : th_over (th_dec c j) h = th_s9 (fun k => th_put c j (c j - 1) k - h k) := th_s9_ext fun k _ => by rw [th_dec_put]
  have b' : th_over h (th_dec c j) = th_s9 (fun k => h k - th_put c j (c j - 1) k) := th_s9_ext fun k _ => by rw [th_dec_put]
  rw [a', b']
  exact ⟨a, b⟩
theorem th_y_begin {post : SY → Prop} {sz lk lf lv : Int32} {hv ch gr rs : Nat → Int32} (H : ∀ ch' : Nat → Int32, (∀ k, k < 9 → ch' k = 0) → post (sz, 0, sz, lv, hv, ch', gr, rs)) :
    wpY_begin post (sz, lk, lf, lv, hv, ch, gr, rs) := by
  show ∃ n2, wY_begin_2 post sz lk lf lv n2 0 hv ch gr rs
  refine loop_0 (fun n i s => wY_begin_2 post sz lk lf lv n (nI i) hv s gr rs) (fun i s => ∀ k, k < i → s k = 0) 9 ch (fun k hk => absurd hk (by omega)) ?_ ?_
  · intro n s hI
    exact br_t (nI_le (a := 9) (b := 9) (by omega) (by omega)) (H s hI)
  · intro n i s hi hI ih
    refine br_f (nI_ge (b := 9) hi (by omega)) ⟨vp_in_nI hi (by omega), nm_r (e' := upd s i 0) (by rw [nI_clamp (by omega)]) (nm_r (nI_1 i) (ih _ ?_))⟩
    intro k hk
    by_cases e : k = i
    · subst e; exact pk_us
    · rw [pk_un e]; exact hI k (by omega)
theorem th_y_take {post : SY → Prop} {h c : Nat → Nat} {sz lk lf lv : Int32} {hv ch gr rs : Nat → Int32} {j : Nat} (hj : j < 9) (hc : c j < 20) (Y : th_YC h c lk lf hv ch)
    (H : ∀ (lk' lf' : Int32) (ch' : Nat → Int32), th_YC h (th_inc c j) lk' lf' hv ch' → post (sz, lk', lf', lv, hv, ch', gr, rs)) :
    wpY_take post (sz, lk, lf, lv, hv, ch, gr, rs) (nI j) := by
  obtain ⟨Yh, Yc, Yl, Yf⟩ := Y
  have e : (nI j).toNatClampNeg = j := nI_clamp (by omega)
  have in9 : vp_in (nI j) 9 := vp_in_nI hj (by omega)
  obtain ⟨o1, o2⟩ := th_over_inc (c := c) (h := h) hj
  have c' : ∀ k, k < 9 → upd ch j (nI (c j + 1)) k = nI (th_inc c j k) ∧ th_inc c j k ≤ 20 := by
    intro k hk
    by_cases z : k = j
    · subst z; rw [pk_us]; unfold th_inc; rw [if_pos rfl]; exact ⟨rfl, by omega⟩
    · rw [pk_un z]; unfold th_inc; rw [if_neg z]; exact Yc k hk
  have hj20 := (Yh j hj).2
  have ue : upd ch (nI j).toNatClampNeg (ch (nI j).toNatClampNeg + 1) = upd ch j (nI (c j + 1)) := by rw [e, (Yc j hj).1, nI_1]
  refine ⟨in9, in9, pk_le (h j) (c j) (fun hle => ?_) (fun hlt => ?_) (by rw [e]; exact (Yh j hj).1) (by rw [e]; exact (Yc j hj).1) (by omega) (by omega)⟩
  · refine nm_r (e' := nI (th_over c h + 1)) (by rw [Yl, nI_1]) ?_
    refine ⟨in9, in9, nm_r ue (H _ _ _ ⟨Yh, c', ?_, ?_⟩)⟩
    · congr 1; omega
    · rw [Yf]; congr 1; omega
  · refine nm_r (e' := nI (th_over h c - 1)) (by rw [Yf, th_s1 (by omega)]) ?_
    refine ⟨in9, in9, nm_r ue (H _ _ _ ⟨Yh, c', ?_, ?_⟩)⟩
    · rw [Yl]; congr 1; omega
    · congr 1; omega
theorem th_y_giveBack {post : SY → Prop} {h c : Nat → Nat} {sz lk lf lv : Int32} {hv ch gr rs : Nat → Int32} {j : Nat} (hj : j < 9) (hc : 0 < c j) (Y : th_YC h c lk lf hv ch)
    (H : ∀ (lk' lf' : Int32) (ch' : Nat → Int32), th_YC h (th_dec c j) lk' lf' hv ch' → post (sz, lk', lf', lv, hv, ch', gr, rs)) :
    wpY_giveBack post (sz, lk, lf, lv, hv, ch, gr, rs) (nI j) := by
  obtain ⟨Yh, Yc, Yl, Yf⟩ := Y
  have e : (nI j).toNatClampNeg = j := nI_clamp (by omega)
  have in9 : vp_in (nI j) 9 := vp_in_nI hj (by omega)
  obtain ⟨o1, o2⟩ := th_over_dec (c := c) (h := h) hj
  have c' : ∀ k, k < 9 → upd ch j (nI (c j - 1)) k = nI (th_dec c j k) ∧ th_dec c j k ≤ 20 := by
    intro k hk
    by_cases z : k = j
    · subst z; rw [pk_us]; unfold th_dec; rw [if_pos rfl]; exact ⟨rfl, by have := (Yc k hk).2; omega⟩
    · rw [pk_un z]; unfold th_dec; rw [if_neg z]; exact Yc k hk
  have hj20 := (Yh j hj).2
  have cj20 := (Yc j hj).2
  have ue : upd ch (nI j).toNatClampNeg (ch (nI j).toNatClampNeg - 1) = upd ch j (nI (c j - 1)) := by rw [e, (Yc j hj).1, th_s1 hc]
  refine ⟨in9, in9, nm_r ue ⟨in9, in9, pk_le (h j) (c j - 1) (fun hle => ?_) (fun hlt => ?_) (by rw [e]; exact (Yh j hj).1) (by rw [e, pk_us]) (by omega) (by omega)⟩⟩
  · refine nm_r (e' := nI (th_over c h - 1)) (by rw [Yl, th_s1 (by omega)]) (H _ _ _ ⟨Yh, c', ?_, ?_⟩)
    · congr 1; omega
    · rw [Yf]; congr 1; omega
  · refine nm_r (e' := nI (th_over h c + 1)) (by rw [Yf, nI_1]) (H _ _ _ ⟨Yh, c', ?_, ?_⟩)
    · rw [Yl]; congr 1; omega
    · congr 1; omega
theorem th_y_tile {post : Int32 → Prop} {sz lk lf lv : Int32} {hv ch gr rs : Nat → Int32} {g i : Nat} (hg : g < 14) (hi : i < 3) (H : post (nI (th_tile g i))) :
    wpY_tile post (sz, lk, lf, lv, hv, ch, gr, rs) (nI g) (nI i) := by
  refine pk_le 9 g (fun h => ?_) (fun h => ?_)
  · have e : nI g - 9 + nI i = nI (th_tile g i) := by
      have := pk_sub (a := g) (b := 9) h
      rw [show (nI 9 : Int32) = 9 from rfl] at this
      rw [this, nI_add]; unfold th_tile; rw [if_neg (by omega)]
    rw [e]; exact H
  · have e : g = th_tile g i := by unfold th_tile; rw [if_pos h]
    rw [← e] at H; exact H
theorem th_y_takeGroup {post : SY → Prop} {h c : Nat → Nat} {sz lk lf lv : Int32} {hv ch gr rs : Nat → Int32} {g : Nat} (hg : g < 14) (hc : ∀ k, k < 9 → c k ≤ 17) (Y : th_YC h c lk lf hv ch)
    (H : ∀ (lk' lf' : Int32) (ch' : Nat → Int32), th_YC h (fun k => c k + th_G g k) lk' lf' hv ch' → post (sz, lk', lf', lv, hv, ch', gr, rs)) :
    wpY_takeGroup post (sz, lk, lf, lv, hv, ch, gr, rs) (nI g) := by
  have step : ∀ (n i : Nat) (c : Nat → Nat) (lk lf : Int32) (ch : Nat → Int32), i < 3 → c (th_tile g i) < 20 → th_YC h c lk lf hv ch →
      (∀ (lk' lf' : Int32) (ch' : Nat → Int32), th_YC h (th_inc c (th_tile g i)) lk' lf' hv ch' → wY_takeGroup_2 post (nI g) n (nI (i + 1)) sz lk' lf' lv hv ch' gr rs) →
      wY_takeGroup_2 post (nI g) (n + 1) (nI i) sz lk lf lv hv ch gr rs := by
    intro n i c lk lf ch hi hc Y K
    refine br_f (nI_ge (b := 3) hi (by omega)) (th_y_tile hg hi (th_y_take (th_tile_lt g hg i hi) hc Y ?_))
    intro lk' lf' ch' Y'
    exact nm_r (nI_1 i) (K lk' lf' ch' Y')
  have b0 := hc _ (th_tile_lt g hg 0 (by omega))
  have b1 := hc _ (th_tile_lt g hg 1 (by omega))
  have b2 := hc _ (th_tile_lt g hg 2 (by omega))
  refine ⟨4, step 3 0 c lk lf ch (by omega) (by omega) Y fun lk1 lf1 ch1 Y1 => step 2 1 _ lk1 lf1 ch1 (by omega) ?_ Y1 fun lk2 lf2 ch2 Y2 => step 1 2 _ lk2 lf2 ch2 (by omega) ?_ Y2 fun lk3 lf3 ch3 Y3 => br_t (nI_le (a := 3) (b := 3) (by omega) (by omega)) (H lk3 lf3 ch3 (th_YC_ext ?_ Y3))⟩
  · unfold th_inc; split <;> omega
  · unfold th_inc; split <;> split <;> omega
  · intro k hk
    unfold th_inc
    rw [th_G_tile g hg k hk]
    omega
theorem th_G_one : ∀ g, g < 14 → ∀ i, i < 3 → 0 < th_G g (th_tile g i) := by decide +kernel
theorem th_y_giveGroup {post : SY → Prop} {h c : Nat → Nat} {sz lk lf lv : Int32} {hv ch gr rs : Nat → Int32} {g : Nat} (hg : g < 14) (hc : ∀ k, k < 9 → th_G g k ≤ c k) (Y : th_YC h c lk lf hv ch)
    (H : ∀ (lk' lf' : Int32) (ch' : Nat → Int32), th_YC h (fun k => c k - th_G g k) lk' lf' hv ch' → post (sz, lk', lf', lv, hv, ch', gr, rs)) :
    wpY_giveGroup post (sz, lk, lf, lv, hv, ch, gr, rs) (nI g) := by
  have step : ∀ (n i : Nat) (c : Nat → Nat) (lk lf : Int32) (ch : Nat → Int32), i < 3 → 0 < c (th_tile g i) → th_YC h c lk lf hv ch →
      (∀ (lk' lf' : Int32) (ch' : Nat → Int32), th_YC h (th_dec c (th_tile g i)) lk' lf' hv ch' → wY_giveGroup_2 post (nI g) n (nI (i + 1)) sz lk' lf' lv hv ch' gr rs) →
      wY_giveGroup_2 post (nI g) (n + 1) (nI i) sz lk lf lv hv ch gr rs := by
    intro n i c lk lf ch hi hc Y K
    refine br_f (nI_ge (b := 3) hi (by omega)) (th_y_tile hg hi (th_y_giveBack (th_tile_lt g hg i hi) hc Y ?_))
    intro lk' lf' ch' Y'
    exact nm_r (nI_1 i) (K lk' lf' ch' Y')
  have t0 := th_tile_lt g hg 0 (by omega)
  have t1 := th_tile_lt g hg 1 (by omega)
  have t2 := th_tile_lt g hg 2 (by omega)
  have b0 := hc _ t0
  have b1 := hc _ t1
  have b2 := hc _ t2
  rw [th_G_tile g hg _ t0, if_pos rfl] at b0
  rw [th_G_tile g hg _ t1] at b1
  rw [th_G_tile g hg _ t2] at b2
  refine ⟨4, step 3 0 c lk lf ch (by omega) (by omega) Y fun lk1 lf1 ch1 Y1 => step 2 1 _ lk1 lf1 ch1 (by omega) ?_ Y1 fun lk2 lf2 ch2 Y2 => step 1 2 _ lk2 lf2 ch2 (by omega) ?_ Y2 fun lk3 lf3 ch3 Y3 => br_t (nI_le (a := 3) (b := 3) (by omega) (by omega)) (H lk3 lf3 ch3 (th_YC_ext ?_ Y3))⟩
  · unfold th_dec
    simp only [if_true] at b1
    split <;> simp_all <;> omega
  · unfold th_dec
    simp only [if_true] at b2
    omega
  · intro k hk
    unfold th_dec
    rw [th_G_tile g hg k hk]
    omega
end
section
/-! the reference: fits, choose, deeper -/
theorem th_G_9 : ∀ g, g < 9 → ∀ k, k < 9 → th_G g k = if k = g then 3 else 0 := by decide +kernel
theorem th_G_run : ∀ g, g < 14 → 9 ≤ g → ∀ k, k < 9 → th_G g k = 0 ∨ (th_G g k = 1 ∧ (k = th_tile g 0 ∨ k = th_tile g 1 ∨ k = th_tile g 2)) := by decide +kernel
def th_own (own : Int32) (h cap : Nat → Nat) : Prop := (own = 0 ∧ ∀ k, k < 9 → cap k = 4) ∨ (own = 1 ∧ ∀ k, k < 9 → cap k = h k)
theorem th_y_fits {post : Int32 → Prop} {h c cap : Nat → Nat} {sz lk lf lv own : Int32} {hv ch gr rs : Nat → Int32} {g : Nat} (hg : g < 14) (O : th_own own h cap) (hc : ∀ k, k < 9 → c k ≤ cap k) (Y : th_YC h c lk lf hv ch)
    (H1 : (∀ k, k < 9 → c k + th_G g k ≤ cap k) → post 1) (H0 : ¬ (∀ k, k < 9 → c k + th_G g k ≤ cap k) → post 0) :
    wpY_fits post (sz, lk, lf, lv, hv, ch, gr, rs) (nI g) own := by
  obtain ⟨Yh, Yc, _, _⟩ := Y
  have capb : ∀ k, k < 9 → cap k ≤ 20 := by
    intro k hk
    rcases O with ⟨_, O⟩ | ⟨_, O⟩
    · have := O k hk; omega
    · have := O k hk; have := (Yh k hk).2; omega
  refine pk_le 9 g (fun h9 => ?_) (fun h9 => ?_)
  · have step : ∀ (n i : Nat), i < 3 → (c (th_tile g i) + 1 ≤ cap (th_tile g i) → wY_fits_39 post (nI g) own sz lk lf lv hv ch gr rs n (nI (i + 1))) →
        wY_fits_39 post (nI g) own sz lk lf lv hv ch gr rs (n + 1) (nI i) := by
      intro n i hi K
      have t := th_tile_lt g hg i hi
      have e : (nI (th_tile g i)).toNatClampNeg = th_tile g i := nI_clamp (by omega)
      have ec : ch (nI (th_tile g i)).toNatClampNeg + 1 = nI (c (th_tile g i) + 1) := by rw [e, (Yc _ t).1, nI_1]
      have b1 := (Yc _ t).2
      have b2 := capb _ t
      have no : c (th_tile g i) + 1 > cap (th_tile g i) → post 0 := fun hn => H0 fun z => by
        have := z _ t
        have := th_G_one g hg i hi
        omega
      refine br_f (nI_ge (b := 3) hi (by omega)) (th_y_tile hg hi ⟨vp_in_nI t (by omega), ?_⟩)
      rcases O with ⟨O1, O⟩ | ⟨O1, O⟩
      · refine br_t O1 (pk_le (c (th_tile g i) + 1) 4 (fun hle => nm_r (nI_1 i) (K (by rw [O _ t]; exact hle))) (fun hlt => no (by rw [O _ t]; exact hlt)) ec rfl (by omega) (by omega))
      · refine br_f (by rw [O1]; decide) ⟨vp_in_nI t (by omega), pk_le (c (th_tile g i) + 1) (cap (th_tile g i)) (fun hle => nm_r (nI_1 i) (K hle)) (fun hlt => no hlt) ec (by rw [e, (Yh _ t).1, O _ t]) (by omega) (by omega)⟩
    refine ⟨4, step 3 0 (by omega) fun a0 => step 2 1 (by omega) fun a1 => step 1 2 (by omega) fun a2 => br_t (nI_le (a := 3) (b := 3) (by omega) (by omega)) (H1 ?_)⟩
    intro k hk
    rcases th_G_run g hg h9 k hk with z | ⟨z, y⟩
    · rw [z]; exact hc k hk
    · rw [z]
      rcases y with y | y | y <;> rw [y] <;> assumption
  · have e : (nI g).toNatClampNeg = g := nI_clamp (by omega)
    have ec : ch (nI g).toNatClampNeg + 3 = nI (c g + 3) := by rw [e, (Yc g h9).1, th_3]
    have b1 := (Yc _ h9).2
    have b2 := capb _ h9
    have yes : c g + 3 ≤ cap g → post 1 := fun y => H1 fun k hk => by
      rw [th_G_9 g h9 k hk]
      split
      · rename_i z; rw [z]; exact y
      · exact hc k hk
    have no : cap g < c g + 3 → post 0 := fun y => H0 fun z => by
      have := z g h9
      rw [th_G_9 g h9 g h9, if_pos rfl] at this
      omega
    refine ⟨vp_in_nI h9 (by omega), ?_⟩
    rcases O with ⟨O1, O⟩ | ⟨O1, O⟩
    · exact br_t O1 (pk_lt 4 (c g + 3) (fun a => no (by rw [O g h9]; exact a)) (fun a => yes (by rw [O g h9]; exact a)) rfl ec (by omega) (by omega))
    · exact br_f (by rw [O1]; decide) ⟨vp_in_nI h9 (by omega), pk_lt (cap g) (c g + 3) no yes (by rw [e, (Yh g h9).1, O g h9]) ec (by omega) (by omega)⟩
/-- the search stands at level l, with the groups g0, g1 taken, next candidate e -/
def th_SS (h base cap : Nat → Nat) (l g0 g1 e : Nat) (lk lf lv : Int32) (hv ch gr : Nat → Int32) : Prop :=
  th_wf l g0 g1 e ∧ th_YC h (th_ch base l g0 g1) lk lf hv ch ∧ (∀ k, k < 9 → th_ch base l g0 g1 k ≤ cap k) ∧ lv = nI l ∧ (1 ≤ l → gr 0 = nI g0) ∧ (2 ≤ l → gr 1 = nI g1) ∧ gr l + 1 = nI e
/-- and with e taken -/
def th_TS (h base cap : Nat → Nat) (l g0 g1 e : Nat) (lk lf lv : Int32) (hv ch gr : Nat → Int32) : Prop :=
  th_wf l g0 g1 e ∧ e ≤ 13 ∧ th_YC h (fun k => th_ch base l g0 g1 k + th_G e k) lk lf hv ch ∧ (∀ k, k < 9 → th_ch base l g0 g1 k + th_G e k ≤ cap k) ∧ lv = nI l ∧ (1 ≤ l → gr 0 = nI g0) ∧ (2 ≤ l → gr 1 = nI g1) ∧ gr l = nI e
theorem th_y_choose {post : Int32 → SY → Prop} {h base cap : Nat → Nat} {sz lk lf lv own : Int32} {hv ch gr rs : Nat → Int32} {l g0 g1 e : Nat} (O : th_own own h cap) (hcap : ∀ k, k < 9 → cap k ≤ 17)
    (S : th_SS h base cap l g0 g1 e lk lf lv hv ch gr)
    (H1 : e = 14 → l = 0 → ∀ (gr' : Nat → Int32), post 0 (sz, lk, lf, -1, hv, ch, gr', rs))
    (H2 : e = 14 → 1 ≤ l → ∀ (lk' lf' lv' : Int32) (ch' gr' : Nat → Int32), th_SS h base cap (l - 1) g0 g1 (th_gl l g0 g1 + 1) lk' lf' lv' hv ch' gr' → post 0 (sz, lk', lf', lv', hv, ch', gr', rs))
    (H3 : e ≤ 13 → ¬ (∀ k, k < 9 → th_ch base l g0 g1 k + th_G e k ≤ cap k) → ∀ (gr' : Nat → Int32), th_SS h base cap l g0 g1 (e + 1) lk lf lv hv ch gr' → post 0 (sz, lk, lf, lv, hv, ch, gr', rs))
    (H4 : e ≤ 13 → ∀ (lk' lf' : Int32) (ch' gr' : Nat → Int32), th_TS h base cap l g0 g1 e lk' lf' lv hv ch' gr' → post 1 (sz, lk', lf', lv, hv, ch', gr', rs)) :
    wpY_choose post (sz, lk, lf, lv, hv, ch, gr, rs) own := by
  obtain ⟨w, Y, hc, rfl, G0, G1, Ge⟩ := S
  have w' := w
  obtain ⟨w1, w2, w3, w4⟩ := w'
  have e1 : (nI l).toNatClampNeg = l := nI_clamp (by omega)
  have in4 : vp_in (nI l) 4 := vp_in_nI (by omega) (by omega)
  have ge : upd gr l (nI e) (nI l).toNatClampNeg = nI e := by rw [e1]; exact pk_us
  have g0' : 1 ≤ l → upd gr l (nI e) 0 = nI g0 := fun z => by rw [pk_un (by omega)]; exact G0 z
  have g1' : 2 ≤ l → upd gr l (nI e) 1 = nI g1 := fun z => by rw [pk_un (by omega)]; exact G1 z
  refine ⟨in4, in4, nm_r (e' := upd gr l (nI e)) (by rw [e1, Ge]) ⟨in4, ?_⟩⟩
  by_cases h13 : e ≤ 13
  · refine br_t (by rw [ge]; exact nI_le (b := 13) h13 (by omega)) ⟨in4, ?_⟩
    rw [ge]
    refine th_y_fits (cap := cap) (by omega) O hc Y (fun hf => ?_) (fun hf => ?_)
    · refine br_f (by decide) ⟨in4, th_y_takeGroup (by omega) (fun k hk => by have := hc k hk; have := hcap k hk; omega) Y ?_⟩
      intro lk' lf' ch' Y'
      exact H4 h13 lk' lf' ch' _ ⟨w, h13, Y', hf, rfl, g0', g1', pk_us⟩
    · refine br_t rfl (H3 h13 hf _ ⟨th_wf_next w h13, Y, hc, rfl, g0', g1', ?_⟩)
      rw [pk_us, nI_1]
  · have e14 : e = 14 := by omega
    subst e14
    refine br_f (by rw [ge]; exact nI_ge (a := 13) (by omega) (by omega)) ?_
    by_cases hl : l = 0
    · subst hl
      exact nm_r (e' := -1) (by decide) (br_t (by decide) (H1 rfl rfl _))
    · obtain ⟨u1, u2⟩ := th_wf_up w (by omega)
      have gl : upd gr l (nI 14) (nI (l - 1)).toNatClampNeg = nI (th_gl l g0 g1) := by
        rw [nI_clamp (by omega), pk_un (by omega)]
        unfold th_gl
        by_cases z : l = 1
        · subst z; exact G0 (by omega)
        · have z2 : l = 2 := by omega
          subst z2; exact G1 (by omega)
      refine nm_r (th_s1 (by omega)) (br_f (nI_pos (by omega)) ⟨vp_in_nI (by omega) (by omega), ?_⟩)
      rw [gl]
      refine th_y_giveGroup (by omega) (fun k hk => by rw [th_ch_up (by omega) w1]; omega) Y ?_
      intro lk' lf' ch' Y'
      have cu : ∀ k, th_ch base l g0 g1 k - th_G (th_gl l g0 g1) k = th_ch base (l - 1) g0 g1 k := fun k => by rw [th_ch_up (by omega) w1]; omega
      refine H2 rfl (by omega) lk' lf' _ ch' _ ⟨u1, th_YC_ext (fun k hk => cu k) Y', fun k hk => ?_, rfl, fun z => g0' (by omega), fun z => g1' (by omega), ?_⟩
      · rw [← cu k]; have := hc k hk; omega
      · have := gl
        rw [nI_clamp (by omega)] at this
        rw [this, nI_1]
/-- the group taken last is given back -/
theorem th_y_give {post : SY → Prop} {h base cap : Nat → Nat} {sz lk lf lv : Int32} {hv ch gr rs : Nat → Int32} {l g0 g1 e : Nat} (S : th_TS h base cap l g0 g1 e lk lf lv hv ch gr)
    (H : ∀ (lk' lf' : Int32) (ch' : Nat → Int32), th_SS h base cap l g0 g1 (e + 1) lk' lf' lv hv ch' gr → post (sz, lk', lf', lv, hv, ch', gr, rs)) :
    vp_in lv 4 ∧ wpY_giveGroup post (sz, lk, lf, lv, hv, ch, gr, rs) (gr lv.toNatClampNeg) := by
  obtain ⟨w, h13, Y, hc, rfl, G0, G1, Ge⟩ := S
  have w1 := w.1
  have e1 : (nI l).toNatClampNeg = l := nI_clamp (by omega)
  refine ⟨vp_in_nI (by omega) (by omega), ?_⟩
  rw [e1, Ge]
  refine th_y_giveGroup (by omega) (fun k hk => by omega) Y ?_
  intro lk' lf' ch' Y'
  refine H lk' lf' ch' ⟨th_wf_next w h13, th_YC_ext (fun k hk => by omega) Y', fun k hk => by have := hc k hk; omega, rfl, G0, G1, ?_⟩
  rw [Ge, nI_1]
theorem th_y_deeper {post : SY → Prop} {h base cap : Nat → Nat} {sz lk lf lv : Int32} {hv ch gr rs : Nat → Int32} {l g0 g1 e : Nat} (hl : l < 2) (S : th_TS h base cap l g0 g1 e lk lf lv hv ch gr)
    (H : ∀ (lv' : Int32) (gr' : Nat → Int32), th_SS h base cap (l + 1) (th_n0 l g0 e) (th_n1 l g1 e) e lk lf lv' hv ch gr' → post (sz, lk, lf, lv', hv, ch, gr', rs)) :
    wpY_deeper post (sz, lk, lf, lv, hv, ch, gr, rs) := by
  obtain ⟨w, h13, Y, hc, rfl, G0, G1, Ge⟩ := S
  have e1 : (nI (l + 1)).toNatClampNeg = l + 1 := nI_clamp (by omega)
  refine nm_r (nI_1 l) ?_
  rw [nI_pred]
  refine ⟨vp_in_nI (by omega) (by omega), vp_in_nI (by omega) (by omega), nm_r (e' := upd gr (l + 1) (nI e - 1)) (by rw [e1, nI_clamp (by omega), Ge]) ?_⟩
  refine H _ _ ⟨th_wf_deep w h13 hl, th_YC_ext (fun k hk => (th_ch_deep hl k).symm) Y, fun k hk => by rw [th_ch_deep hl]; exact hc k hk, rfl, fun _ => ?_, fun _ => ?_, ?_⟩
  · rw [pk_un (by omega)]
    unfold th_n0
    by_cases z : l = 0
    · subst z; rw [Ge, if_pos rfl]
    · rw [if_neg z]; exact G0 (by omega)
  · have z : l = 1 := by omega
    subst z
    rw [pk_un (by omega), Ge]; rfl
  · rw [pk_us, Int32.sub_add_cancel]
end
section
/-! the reference: leastWith -/
def th_V (base : Nat → Nat) (q : Nat) : Prop := th_srt q = true ∧ th_sz q = 3 ∧ ∀ k, k < 9 → base k + th_vec q k ≤ 4
def th_lv (h base : Nat → Nat) (q : Nat) : Nat := th_over (fun k => base k + th_vec q k) h
theorem th_over_ext {c c' h : Nat → Nat} (e : ∀ k, k < 9 → c k = c' k) : th_over c h = th_over c' h := by
  unfold th_over
  exact th_s9_ext fun k hk => by rw [e k hk]
theorem th_over_b {c h : Nat → Nat} (hc : ∀ k, k < 9 → c k ≤ 20) : th_over c h ≤ 180 := by
  have := th_s9_le (f := fun k => c k - h k) (g := fun _ => 20) (fun k hk => by have := hc k hk; omega)
  exact this
def th_AL (h base : Nat → Nat) (bd r T : Nat) : Prop := r ≤ bd ∧ (r = bd ∨ ∃ q, q < 3375 ∧ th_V base q ∧ r = th_lv h base q) ∧ ∀ q, q < T → th_V base q → r ≤ th_lv h base q
theorem th_AL_s {h base : Nat → Nat} {bd r T T' : Nat} (A : th_AL h base bd r T) (k : ∀ q, T ≤ q → q < T' → th_V base q → r ≤ th_lv h base q) : th_AL h base bd r T' := by
  refine ⟨A.1, A.2.1, fun q hq v => ?_⟩
  by_cases z : q < T
  · exact A.2.2 q z v
  · exact k q (by omega) hq v
theorem th_y_least_loop {post : Int32 → SY → Prop} {h base : Nat → Nat} {sz : Int32} {hv rs : Nat → Int32} {bd en : Nat} (hbd : bd ≤ 100) (hen : en ≤ 100)
    (H : ∀ (r : Nat) (lk' lf' lv' : Int32) (ch' gr' : Nat → Int32), r ≤ bd → (r = bd ∨ ∃ q, q < 3375 ∧ th_V base q ∧ r = th_lv h base q) → (r ≤ en ∨ ∀ q, q < 3375 → th_V base q → r ≤ th_lv h base q) →
      post (nI r) (sz, lk', lf', lv', hv, ch', gr', rs)) :
    ∀ (n r l g0 g1 e : Nat) (lk lf lv : Int32) (ch gr : Nat → Int32), th_mu l g0 g1 e < n → th_SS h base (fun _ => 4) l g0 g1 e lk lf lv hv ch gr → th_AL h base bd r (th_T l g0 g1 e) →
      wY_leastWith_14 post (nI en) n (nI r) sz lk lf lv hv ch gr rs := by
  intro n
  induction n with
  | zero => intro r l g0 g1 e lk lf lv ch gr hm; omega
  | succ n ih =>
    intro r l g0 g1 e lk lf lv ch gr hm S A
    have w := S.1
    have w1 := w.1
    have r100 : r ≤ 100 := by have := A.1; omega
    refine br_f (by rw [S.2.2.2.1]; exact nI_pos (by omega)) (pk_le r en (fun hle => H r lk lf lv ch gr A.1 A.2.1 (Or.inl hle)) (fun hlt => ?_))
    refine th_y_choose (Or.inl ⟨rfl, fun _ _ => rfl⟩) (fun _ _ => by decide) S ?_ ?_ ?_ ?_
    · rintro rfl rfl gr'
      refine br_t rfl ?_
      obtain ⟨m, rfl⟩ : ∃ m, n = m + 1 := ⟨n - 1, by unfold th_mu at hm; omega⟩
      refine br_t (by decide) (H r _ _ _ _ _ A.1 A.2.1 (Or.inr (th_AL_s A (T' := 3375) ?_).2.2))
      intro q a b v
      have := th_end (q := q) (by unfold th_T at *; simpa using a) b v.1
      have := v.2.1
      omega
    · rintro rfl hl lk' lf' lv' ch' gr' S'
      refine br_t rfl (ih r _ _ _ _ _ _ _ _ _ (by have := th_mu_up w hl; omega) S' (th_AL_s A ?_))
      intro q a b v
      have := th_up w hl a b v.1
      have := v.2.1
      omega
    · intro h13 hf gr' S'
      refine br_t rfl (ih r _ _ _ _ _ _ _ _ _ (by have := th_mu_next w; omega) S' (th_AL_s A ?_))
      intro q a b v
      refine absurd (fun k hk => ?_) hf
      have := th_gap (base := base) w h13 a b k
      have := v.2.2 k hk
      omega
    · intro h13 lk' lf' ch' gr' S'
      obtain ⟨o, eo⟩ : ∃ o, o = th_over (fun k => th_ch base l g0 g1 k + th_G e k) h := ⟨_, rfl⟩
      have elk : lk' = nI o := by rw [eo]; exact S'.2.2.1.2.2.1
      have o180 : o ≤ 180 := by rw [eo]; exact th_over_b fun k hk => (S'.2.2.1.2.1 k hk).2
      have gap : ∀ q, th_T l g0 g1 e ≤ q → q < th_T l g0 g1 (e + 1) → o ≤ th_lv h base q := by
        intro q a b
        rw [eo]
        exact th_over_mono fun k _ => th_gap (base := base) w h13 a b k
      refine br_f (by decide) (pk_le r o (fun hle => ?_) (fun hlo => ?_) rfl elk (by omega) (by omega))
      · refine br_t (by rw [elk]; exact nI_le hle (by omega)) (th_y_give S' fun lk2 lf2 ch2 S2 => ih r _ _ _ _ _ _ _ _ _ (by have := th_mu_next w; omega) S2 (th_AL_s A ?_))
        intro q a b v
        have := gap q a b
        omega
      · refine pk_eq l 2 (fun hl => ?_) (fun hl => ?_) S'.2.2.2.2.1 rfl (by omega) (by omega)
        · subst elk
          subst hl
          refine br_t (nI_le (Nat.le_refl o) (by omega)) (th_y_give S' fun lk2 lf2 ch2 S2 => ih o 2 g0 g1 (e + 1) _ _ _ _ _ (by have := th_mu_next w; omega) S2 ?_)
          obtain ⟨x1, x2, x3, x4, x5, x6⟩ := th_wq_s w h13
          refine ⟨by have := A.1; omega, Or.inr ⟨th_wq 2 g0 g1 e, x5, ⟨x1, x2, fun k hk => ?_⟩, ?_⟩, fun q hq v => ?_⟩
          · rw [x6]; exact S'.2.2.2.1 k hk
          · rw [eo]; unfold th_lv; exact th_over_ext fun k _ => (x6 base k).symm
          · by_cases z : q < th_T 2 g0 g1 e
            · have := A.2.2 q z v; omega
            · exact gap q (by omega) hq
        · refine br_f (by rw [elk]; exact nI_ge hlo (by omega)) (th_y_deeper (by omega) S' fun lv2 gr2 S2 => ih r _ _ _ _ _ _ _ _ _ (by have := th_mu_deep (l := l) (g0 := g0) (g1 := g1) (e := e) (by omega); omega) S2 (th_AL_s A ?_))
          intro q a b v
          have z := v.1
          rw [th_deep w h13 (by omega) a b] at z
          cases z
theorem th_y_leastWith {post : Int32 → SY → Prop} {h base : Nat → Nat} {sz lk lf lv : Int32} {hv ch gr rs : Nat → Int32} {bd en : Nat} (hbd : bd ≤ 100) (hen : en ≤ 100) (Y : th_YC h base lk lf hv ch) (hb4 : ∀ k, k < 9 → base k ≤ 4)
    (H : ∀ (r : Nat) (lk' lf' lv' : Int32) (ch' gr' : Nat → Int32), r ≤ bd → (r = bd ∨ ∃ q, q < 3375 ∧ th_V base q ∧ r = th_lv h base q) → (r ≤ en ∨ ∀ q, q < 3375 → th_V base q → r ≤ th_lv h base q) →
      post (nI r) (sz, lk', lf', lv', hv, ch', gr', rs)) :
    wpY_leastWith post (sz, lk, lf, lv, hv, ch, gr, rs) (nI bd) (nI en) := by
  refine nm_r (e' := upd gr 0 (-1)) rfl ⟨th_mu 0 0 0 0 + 1, ?_⟩
  refine th_y_least_loop hbd hen H _ bd 0 0 0 0 _ _ 0 _ _ (by omega) ⟨⟨by omega, by omega, by omega, by omega⟩, th_YC_ext (fun k hk => by simp [th_ch]) Y, fun k hk => ?_, rfl, by omega, by omega, ?_⟩ ⟨Nat.le_refl _, Or.inl rfl, ?_⟩
  · have := hb4 k hk
    simpa [th_ch] using this
  · rw [pk_us]; decide
  · intro q hq
    simp [th_T] at hq
end
section
/-! the reference: groups, countWith -/
def th_F (h base : Nat → Nat) (q : Nat) : Prop := th_srt q = true ∧ ∀ k, k < 9 → base k + th_vec q k ≤ h k
theorem th_sz3 (q : Nat) : th_sz q ≤ 3 := by
  unfold th_sz th_one
  split <;> split <;> split <;> omega
def th_AG (h base : Nat → Nat) (m T : Nat) : Prop := m ≤ 3 ∧ (m = 0 ∨ ∃ q, q < 3375 ∧ th_F h base q ∧ m = th_sz q) ∧ ∀ q, q < T → th_F h base q → th_sz q ≤ m
theorem th_AG_s {h base : Nat → Nat} {m T T' : Nat} (A : th_AG h base m T) (k : ∀ q, T ≤ q → q < T' → th_F h base q → th_sz q ≤ m) : th_AG h base m T' := by
  refine ⟨A.1, A.2.1, fun q hq v => ?_⟩
  by_cases z : q < T
  · exact A.2.2 q z v
  · exact k q (by omega) hq v
theorem th_y_groups_loop {post : Int32 → SY → Prop} {h base : Nat → Nat} {sz : Int32} {hv rs : Nat → Int32} (h17 : ∀ k, k < 9 → h k ≤ 17)
    (H : ∀ (m : Nat) (lk' lf' lv' : Int32) (ch' gr' : Nat → Int32), th_AG h base m 3375 → post (nI m) (sz, lk', lf', lv', hv, ch', gr', rs)) :
    ∀ (n m l g0 g1 e : Nat) (lk lf lv : Int32) (ch gr : Nat → Int32), th_mu l g0 g1 e < n → th_SS h base h l g0 g1 e lk lf lv hv ch gr → th_AG h base m (th_T l g0 g1 e) → l ≤ m →
      wY_groups_18 post n (nI m) sz lk lf lv hv ch gr rs := by
  intro n
  induction n with
  | zero => intro m l g0 g1 e lk lf lv ch gr hm; omega
  | succ n ih =>
    intro m l g0 g1 e lk lf lv ch gr hm S A hlm
    have w := S.1
    have w1 := w.1
    have m3 := A.1
    refine br_f (by rw [S.2.2.2.1]; exact nI_pos (by omega)) ?_
    refine th_y_choose (Or.inr ⟨rfl, fun _ _ => rfl⟩) h17 S ?_ ?_ ?_ ?_
    · rintro rfl rfl gr'
      refine br_t rfl ?_
      obtain ⟨j, rfl⟩ : ∃ j, n = j + 1 := ⟨n - 1, by unfold th_mu at hm; omega⟩
      refine br_t (by decide) (H m _ _ _ _ _ (th_AG_s A ?_))
      intro q a b v
      have := th_end (q := q) (by unfold th_T at *; simpa using a) b v.1
      omega
    · rintro rfl hl lk' lf' lv' ch' gr' S'
      refine br_t rfl (ih m (l - 1) g0 g1 _ _ _ _ _ _ (by have := th_mu_up w hl; omega) S' (th_AG_s A ?_) (by omega))
      intro q a b v
      have := th_up w hl a b v.1
      omega
    · intro h13 hf gr' S'
      refine br_t rfl (ih m l g0 g1 (e + 1) _ _ _ _ _ (by have := th_mu_next w; omega) S' (th_AG_s A ?_) hlm)
      intro q a b v
      refine absurd (fun k hk => ?_) hf
      have := th_gap (base := base) w h13 a b k
      have := v.2 k hk
      omega
    · intro h13 lk' lf' ch' gr' S'
      have elv : lv = nI l := S'.2.2.2.2.1
      have go : ∀ m', m ≤ m' → l + 1 ≤ m' → th_AG h base m' (th_T l g0 g1 e) → wY_groups_52 post (wY_groups_18 post n) (nI m') sz lk' lf' lv hv ch' gr' rs := by
        intro m' h1 h2 A'
        refine pk_le 2 l (fun hl => ?_) (fun hl => ?_) rfl elv (by omega) (by omega)
        · refine th_y_give S' fun lk2 lf2 ch2 S2 => ih m' l g0 g1 (e + 1) _ _ _ _ _ (by have := th_mu_next w; omega) S2 (th_AG_s A' ?_) (by omega)
          intro q a b v
          have := th_sz3 q
          omega
        · refine th_y_deeper (by omega) S' fun lv2 gr2 S2 => ih m' (l + 1) _ _ e _ _ _ _ _ (by have := th_mu_deep (l := l) (g0 := g0) (g1 := g1) (e := e) (by omega); omega) S2 (th_AG_s A' ?_) h2
          intro q a b v
          have z := v.1
          rw [th_deep w h13 (by omega) a b] at z
          cases z
      refine br_f (by decide) (pk_le (l + 1) m (fun hle => go m (Nat.le_refl _) hle A) (fun hlt => ?_) (by rw [elv, nI_1]) rfl (by omega) (by omega))
      refine nm_r (e' := nI (l + 1)) (by rw [elv, nI_1]) (go (l + 1) (by omega) (Nat.le_refl _) ?_)
      obtain ⟨x1, x2, x3, x4, x5, x6⟩ := th_wq_s w h13
      refine ⟨by omega, Or.inr ⟨th_wq l g0 g1 e, x5, ⟨x1, fun k hk => ?_⟩, x2.symm⟩, fun q hq v => ?_⟩
      · rw [x6]; exact S'.2.2.2.1 k hk
      · have := A.2.2 q hq v; omega
/-- a search begins -/
theorem th_SS_0 {h base cap : Nat → Nat} {lk lf : Int32} {hv ch gr : Nat → Int32} (Y : th_YC h base lk lf hv ch) (hb : ∀ k, k < 9 → base k ≤ cap k) : th_SS h base cap 0 0 0 0 lk lf 0 hv ch (upd gr 0 (-1)) := by
  refine ⟨⟨by omega, by omega, by omega, by omega⟩, th_YC_ext (fun k hk => by simp [th_ch]) Y, fun k hk => ?_, rfl, by omega, by omega, ?_⟩
  · have := hb k hk
    simpa [th_ch] using this
  · rw [pk_us]; decide
theorem th_T0 : th_T 0 0 0 0 = 0 := rfl
/-- a hand, as the reference holds it -/
def th_YH (h : Nat → Nat) (sz : Int32) (hv : Nat → Int32) : Prop := (∀ k, k < 9 → hv k = nI (h k)) ∧ (∀ k, k < 9 → h k ≤ 4) ∧ sz = nI (th_s9 h) ∧ th_s9 h ≤ 12
theorem th_s9_0 : th_s9 (fun _ => 0) = 0 := rfl
theorem th_YC_0 {h : Nat → Nat} {sz : Int32} {hv ch : Nat → Int32} (Y : th_YH h sz hv) (hc : ∀ k, k < 9 → ch k = 0) : th_YC h (fun _ => 0) 0 sz hv ch := by
  refine ⟨fun k hk => ⟨Y.1 k hk, by have := Y.2.1 k hk; omega⟩, fun k hk => ⟨hc k hk, Nat.zero_le _⟩, ?_, ?_⟩
  · have : th_over (fun _ => 0) h = 0 := by
      have : th_over (fun _ => 0) h = th_s9 (fun _ => 0) := th_s9_ext fun k _ => Nat.zero_sub _
      rw [this, th_s9_0]
    rw [this]; rfl
  · have : th_over h (fun _ => 0) = th_s9 h := th_s9_ext fun k _ => Nat.sub_zero _
    rw [this]; exact Y.2.2.1
/-- begin and two of a kind -/
def th_pr (p k : Nat) : Nat := if k = p then 2 else 0
theorem th_y_pair {post : SY → Prop} {h : Nat → Nat} {sz lk lf lv : Int32} {hv ch gr rs : Nat → Int32} {p : Nat} (hp : p < 9) (Y : th_YH h sz hv)
    (H : ∀ (lk' lf' : Int32) (ch' : Nat → Int32), th_YC h (th_pr p) lk' lf' hv ch' → post (sz, lk', lf', lv, hv, ch', gr, rs)) :
    wpY_begin (fun u => match u with | (f_size, f_lacked, f_left, f_level, a_have, a_chosen, a_groups, a_rest) => wpY_take (fun u => match u with | (f_size, f_lacked, f_left, f_level, a_have, a_chosen, a_groups, a_rest) => wpY_take post (f_size, f_lacked, f_left, f_level, a_have, a_chosen, a_groups, a_rest) (nI p)) (f_size, f_lacked, f_left, f_level, a_have, a_chosen, a_groups, a_rest) (nI p)) (sz, lk, lf, lv, hv, ch, gr, rs) := by
  refine th_y_begin fun ch1 h1 => ?_
  refine th_y_take (c := fun _ => 0) hp (by decide) (th_YC_0 Y h1) fun lk2 lf2 ch2 Y2 => ?_
  refine th_y_take hp (by unfold th_inc; rw [if_pos rfl]; show 0 + 1 < 20; decide) Y2 fun lk3 lf3 ch3 Y3 => ?_
  refine H lk3 lf3 ch3 (th_YC_ext (fun k hk => ?_) Y3)
  unfold th_inc th_pr
  split <;> rfl
theorem th_y_groups {post : Int32 → SY → Prop} {h : Nat → Nat} {sz lk lf lv : Int32} {hv ch gr rs : Nat → Int32} (Y : th_YH h sz hv)
    (H : ∀ (m : Nat) (lk' lf' lv' : Int32) (ch' gr' : Nat → Int32), th_AG h (fun _ => 0) m 3375 → post (nI m) (sz, lk', lf', lv', hv, ch', gr', rs)) :
    wpY_groups post (sz, lk, lf, lv, hv, ch, gr, rs) := by
  unfold wpY_groups
  dsimp only
  refine th_y_begin fun ch1 h1 => ?_
  refine nm_r (e' := upd gr 0 (-1)) rfl ⟨th_mu 0 0 0 0 + 1, ?_⟩
  refine th_y_groups_loop (fun k hk => by have := Y.2.1 k hk; omega) H _ 0 0 0 0 0 _ _ 0 _ _ (by omega) (th_SS_0 (th_YC_0 Y h1) (fun k hk => by omega)) ⟨by omega, Or.inl rfl, ?_⟩ (by omega)
  intro q hq
  rw [th_T0] at hq
  omega
noncomputable def th_E (h base : Nat → Nat) (m q : Nat) : Bool := th_B (th_F h base q ∧ th_sz q = m)
theorem th_y_count_loop {post : Int32 → SY → Prop} {h base : Nat → Nat} {sz : Int32} {hv rs : Nat → Int32} {m : Nat} (m1 : 1 ≤ m) (m3 : m ≤ 3) (h17 : ∀ k, k < 9 → h k ≤ 17)
    (H : ∀ (lk' lf' lv' : Int32) (ch' gr' : Nat → Int32), post (nI (th_cnt (th_E h base m) 3375)) (sz, lk', lf', lv', hv, ch', gr', rs)) :
    ∀ (n l g0 g1 e : Nat) (lk lf lv : Int32) (ch gr : Nat → Int32), th_mu l g0 g1 e < n → th_SS h base h l g0 g1 e lk lf lv hv ch gr → l < m →
      wY_countWith_20 post (nI m) n (nI (th_cnt (th_E h base m) (th_T l g0 g1 e))) sz lk lf lv hv ch gr rs := by
  intro n
  induction n with
  | zero => intro l g0 g1 e lk lf lv ch gr hm; omega
  | succ n ih =>
    intro l g0 g1 e lk lf lv ch gr hm S hlm
    have w := S.1
    have w1 := w.1
    refine br_f (by rw [S.2.2.2.1]; exact nI_pos (by omega)) ?_
    refine th_y_choose (Or.inr ⟨rfl, fun _ _ => rfl⟩) h17 S ?_ ?_ ?_ ?_
    · rintro rfl rfl gr'
      refine br_t rfl ?_
      obtain ⟨j, rfl⟩ : ∃ j, n = j + 1 := ⟨n - 1, by unfold th_mu at hm; omega⟩
      have ee : th_cnt (th_E h base m) (th_T 0 g0 g1 14) = th_cnt (th_E h base m) 3375 := by
        refine (th_cnt_none (by unfold th_T; simp) fun q a b => th_B_f fun v => ?_).symm
        have := th_end (q := q) (by unfold th_T at *; simpa using a) b v.1.1
        have := v.2
        omega
      rw [ee]
      exact br_t (by decide) (H _ _ _ _ _)
    · rintro rfl hl lk' lf' lv' ch' gr' S'
      refine br_t rfl ?_
      have ee : th_cnt (th_E h base m) (th_T l g0 g1 14) = th_cnt (th_E h base m) (th_T (l - 1) g0 g1 (th_gl l g0 g1 + 1)) := by
        refine (th_cnt_none (Nat.le_of_lt (th_T_up w hl)) fun q a b => th_B_f fun v => ?_).symm
        have := th_up w hl a b v.1.1
        have := v.2
        omega
      rw [ee]
      exact ih (l - 1) g0 g1 _ _ _ _ _ _ (by have := th_mu_up w hl; omega) S' (by omega)
    · intro h13 hf gr' S'
      refine br_t rfl ?_
      have ee : th_cnt (th_E h base m) (th_T l g0 g1 e) = th_cnt (th_E h base m) (th_T l g0 g1 (e + 1)) := by
        refine (th_cnt_none (Nat.le_of_lt th_T_next) fun q a b => th_B_f fun v => ?_).symm
        refine absurd (fun k hk => ?_) hf
        have := th_gap (base := base) w h13 a b k
        have := v.1.2 k hk
        omega
      rw [ee]
      exact ih l g0 g1 (e + 1) _ _ _ _ _ (by have := th_mu_next w; omega) S' hlm
    · intro h13 lk' lf' ch' gr' S'
      have elv : lv = nI l := S'.2.2.2.2.1
      refine br_f (by decide) (pk_eq l (m - 1) (fun hl => ?_) (fun hl => ?_) elv (th_s1 (by omega)) (by omega) (by omega))
      · have ee : th_cnt (th_E h base m) (th_T l g0 g1 (e + 1)) = th_cnt (th_E h base m) (th_T l g0 g1 e) + 1 := by
          obtain ⟨x1, x2, x3, x4, x5, x6⟩ := th_wq_s w h13
          refine th_cnt_one (th_wq l g0 g1 e) x3 x4 (th_B_t ⟨⟨x1, fun k hk => ?_⟩, by omega⟩) fun q a b v => ?_
          · rw [x6]; exact S'.2.2.2.1 k hk
          · have v' := th_B_iff.mp v
            exact th_wq_u w h13 a b v'.1.1 (by have := v'.2; omega)
        refine nm_r (nI_1 _) (th_y_give S' fun lk2 lf2 ch2 S2 => ?_)
        have := ih l g0 g1 (e + 1) _ _ _ _ _ (by have := th_mu_next w; omega) S2 hlm
        rw [ee] at this
        exact this
      · have ee : th_cnt (th_E h base m) (th_T l g0 g1 e) = th_cnt (th_E h base m) (th_T (l + 1) (th_n0 l g0 e) (th_n1 l g1 e) e) := by
          refine (th_cnt_none (th_T_deep (by omega)) fun q a b => th_B_f fun v => ?_).symm
          have z := v.1.1
          rw [th_deep w h13 (by omega) a b] at z
          cases z
        rw [ee]
        exact th_y_deeper (by omega) S' fun lv2 gr2 S2 => ih (l + 1) _ _ e _ _ _ _ _ (by have := th_mu_deep (l := l) (g0 := g0) (g1 := g1) (e := e) (by omega); omega) S2 (by omega)
theorem th_one0 {x : Nat} (h : th_one x = 0) : 14 ≤ x := by
  unfold th_one at h
  split at h <;> omega
theorem th_sz0 {q : Nat} (hq : q < 3375) (z : th_sz q = 0) : q = 3374 := by
  unfold th_sz at z
  have a := th_one0 (x := th_a q) (by omega)
  have b := th_one0 (x := th_b q) (by omega)
  have c := th_one0 (x := th_c q) (by omega)
  unfold th_a th_b th_c at *
  omega
theorem th_y_countWith {post : Int32 → SY → Prop} {h base : Nat → Nat} {sz lk lf lv : Int32} {hv ch gr rs : Nat → Int32} {m : Nat} (m3 : m ≤ 3) (h17 : ∀ k, k < 9 → h k ≤ 17) (Y : th_YC h base lk lf hv ch) (hb : ∀ k, k < 9 → base k ≤ h k)
    (H : ∀ (lk' lf' lv' : Int32) (ch' gr' : Nat → Int32), post (nI (th_cnt (th_E h base m) 3375)) (sz, lk', lf', lv', hv, ch', gr', rs)) :
    wpY_countWith post (sz, lk, lf, lv, hv, ch, gr, rs) (nI m) := by
  refine pk_eq m 0 (fun z => ?_) (fun z => ?_)
  · subst z
    have e : th_cnt (th_E h base 0) 3375 = th_cnt (th_E h base 0) 0 + 1 := by
      refine th_cnt_one 3374 (by omega) (by omega) (th_B_t ⟨⟨by decide, fun k hk => ?_⟩, by decide⟩) fun q a b v => th_sz0 b (th_B_iff.mp v).2
      have z : th_vec 3374 k = 0 := by simp [th_vec, th_a, th_b, th_c, th_G]
      rw [z]; exact hb k hk
    have := H lk lf lv ch gr
    rw [e] at this
    exact this
  · refine nm_r (e' := upd gr 0 (-1)) rfl ⟨th_mu 0 0 0 0 + 1, ?_⟩
    exact th_y_count_loop (by omega) m3 h17 H _ 0 0 0 0 _ _ 0 _ _ (by omega) (th_SS_0 Y hb) (by omega)
end
section
/-! the reference: divides, counts, completeWith -/
theorem th_b01 {b : Bool} : (if b then (1 : Int32) else 0) = 0 ↔ b = false := by
  cases b <;> decide
theorem th_sub2 (x : Int32) (a b : Nat) : x - nI a - nI b = x - nI (b + a) := by
  rw [← nI_add]; grind
theorem th_sub0 (x : Int32) : x - nI 0 = x := by
  rw [nI_0]; grind
/-- inner loop of divides: the runs are taken -/
theorem th_y_div96 {post : Int32 → SY → Prop} {J : Int32 → (Nat → Int32) → (Nat → Int32) → (Nat → Int32) → (Nat → Int32) → Prop} {sz lk lf lv : Int32} {hv ch gr rs : Nat → Int32} {k d : Nat} (hk : k < 9) (hd : d < 3) (hkd : d = 0 ∨ k ≤ 4)
    (H : ∀ rs' : Nat → Int32, rs' (k + 1) = rs (k + 1) - nI d → rs' (k + 2) = rs (k + 2) - nI d → (∀ j, k + 3 ≤ j → rs' j = rs j) → J (nI (k + 1)) hv ch gr rs') :
    ∃ n96, wY_divides_96 post J (nI k) (nI d) sz lk lf lv n96 0 hv ch gr rs := by
  by_cases z : d = 0
  · subst z
    refine ⟨1, br_f (by decide) (br_t (by decide) (nm_r (nI_1 k) (H rs ?_ ?_ fun j _ => rfl)))⟩
    · rw [th_sub0]
    · rw [th_sub0]
  · have hk4 : k ≤ 4 := by omega
    have dp : ¬ nI d ≤ 0 := nI_nle (by omega) (by omega)
    have step : ∀ (n i : Nat) (rs : Nat → Int32), i < 3 → wY_divides_96 post J (nI k) (nI d) sz lk lf lv n (nI (i + 1)) hv ch gr (upd rs (k + i) (rs (k + i) - nI d)) →
        wY_divides_96 post J (nI k) (nI d) sz lk lf lv (n + 1) (nI i) hv ch gr rs := by
      intro n i rs hi K
      have e : nI k + nI i = nI (k + i) := nI_add k i
      have in11 : vp_in (nI k + nI i) 11 := by rw [e]; exact vp_in_nI (by omega) (by omega)
      refine br_f (nI_ge (b := 3) hi (by omega)) (br_f dp ⟨in11, in11, nm_r (e' := upd rs (k + i) (rs (k + i) - nI d)) (by rw [e, nI_clamp (by omega)]) (nm_r (nI_1 i) K)⟩)
    refine ⟨4, step 3 0 rs (by omega) (step 2 1 _ (by omega) (step 1 2 _ (by omega) (br_t (nI_le (a := 3) (b := 3) (by omega) (by omega)) (nm_r (nI_1 k) (H _ ?_ ?_ ?_)))))⟩
    · rw [pk_un (by omega), pk_us, pk_un (by omega)]
    · rw [pk_us, pk_un (by omega), pk_un (by omega)]
    · intro j hj
      rw [pk_un (by omega), pk_un (by omega), pk_un (by omega)]
theorem th_y_div56 {post : Int32 → SY → Prop} {sz lk lf lv : Int32} {hv ch gr : Nat → Int32} {w : Nat → Nat} (hw : ∀ k, k < 9 → w k ≤ 20) :
    ∀ (m k r1 r2 : Nat) (rs : Nat → Int32) (n : Nat), k + m = 9 → m < n → r1 < 3 → r2 < 3 → (0 < m → rs k = nI (w k) - nI (r1 + r2)) → (1 < m → rs (k + 1) = nI (w (k + 1)) - nI r1) → (∀ j, k + 2 ≤ j → j < 9 → rs j = nI (w j)) →
      (∀ rs' : Nat → Int32, post (if th_dv w m k r1 r2 then 1 else 0) (sz, lk, lf, lv, hv, ch, gr, rs')) →
      wY_divides_56 post sz lk lf lv n (nI k) hv ch gr rs := by
  intro m
  induction m with
  | zero =>
    intro k r1 r2 rs n hkm hn h1 h2 e0 e1 e2 H
    obtain ⟨n, rfl⟩ : ∃ j, n = j + 1 := ⟨n - 1, by omega⟩
    exact br_t (nI_le (a := 9) (by omega) (by omega)) (H rs)
  | succ m ih =>
    intro k r1 r2 rs n hkm hn h1 h2 e0 e1 e2 H
    obtain ⟨n, rfl⟩ : ∃ j, n = j + 1 := ⟨n - 1, by omega⟩
    have hk : k < 9 := by omega
    have w20 := hw k hk
    have ek : (nI k).toNatClampNeg = k := nI_clamp (by omega)
    have in11 : vp_in (nI k) 11 := vp_in_nI (by omega) (by omega)
    refine br_f (nI_ge (b := 9) hk (by omega)) ⟨in11, ?_⟩
    rw [ek, e0 (by omega)]
    by_cases z : w k < r1 + r2
    · have H' := H rs
      unfold th_dv at H'
      rw [if_pos z] at H'
      exact br_f (Int32.not_le.mpr (pk_sneg (by omega) z)) H'
    · rw [pk_sub (by omega)]
      have rem := pk_rem (a := w k - (r1 + r2)) (d := 3) (by omega) (by omega) (by omega)
      have H2 := H
      unfold th_dv at H2
      rw [if_neg z] at H2
      obtain ⟨d, ed⟩ : ∃ d, d = (w k - (r1 + r2)) % 3 := ⟨_, rfl⟩
      have d3 : d < 3 := by omega
      rw [← ed] at rem H2
      refine br_t (nI_pos' (by omega)) ⟨in11, by decide, nm_r rem ?_⟩
      have go : (d = 0 ∨ k ≤ 4) → ∃ n96, wY_divides_96 post (wY_divides_56 post sz lk lf lv n) (nI k) (nI d) sz lk lf lv n96 0 hv ch gr rs := by
        intro hkd
        rw [if_neg (show ¬ (4 < k ∧ 0 < d) by omega)] at H2
        refine th_y_div96 hk d3 hkd fun rs' f1 f2 f3 => ?_
        refine ih (k + 1) d r1 rs' n (by omega) (by omega) d3 h1 (fun hm => ?_) (fun hm => ?_) (fun j hj hj9 => ?_) H2
        · rw [f1, e1 (by omega), th_sub2]
        · rw [show k + 1 + 1 = k + 2 from rfl, f2, e2 (k + 2) (by omega) (by omega)]
        · rw [f3 j (by omega), e2 j (by omega) hj9]
      refine pk_le d 0 (fun hd => go (Or.inl (by omega))) (fun hd => ?_)
      refine pk_le k 4 (fun h4 => go (Or.inr h4)) (fun h4 => ?_)
      rw [if_pos (show 4 < k ∧ 0 < d by omega)] at H2
      exact H2 rs
theorem th_y_divides {post : Int32 → SY → Prop} {c : Nat → Nat} {sz lk lf lv : Int32} {hv ch gr rs : Nat → Int32} {r : Nat} (hr : r < 9) (hc : ∀ k, k < 9 → ch k = nI (c k) ∧ c k ≤ 20)
    (H : ∀ rs' : Nat → Int32, post (if th_dvp c r then 1 else 0) (sz, lk, lf, lv, hv, ch, gr, rs')) :
    wpY_divides post (sz, lk, lf, lv, hv, ch, gr, rs) (nI r) := by
  have er : (nI r).toNatClampNeg = r := nI_clamp (by omega)
  have c20 := (hc r hr).2
  refine ⟨vp_in_nI hr (by omega), pk_le 2 (c r) (fun h2 => ?_) (fun h2 => ?_) rfl (by rw [er]; exact (hc r hr).1) (by omega) (by omega)⟩
  · have H' : ∀ rs' : Nat → Int32, post (if th_dv (th_sub c r) 9 0 0 0 then 1 else 0) (sz, lk, lf, lv, hv, ch, gr, rs') := by
      intro rs'
      have := H rs'
      unfold th_dvp at this
      rw [decide_eq_true h2, Bool.true_and] at this
      exact this
    refine loop_0 (fun n i s => wY_divides_14 post (nI r) sz lk lf lv n (nI i) hv ch gr s) (fun i s => ∀ k, k < i → s k = nI (th_sub c r k)) 9 rs (fun k hk => absurd hk (by omega)) ?_ ?_
    · intro n s hI
      refine br_t (nI_le (a := 9) (b := 9) (by omega) (by omega)) ⟨10, ?_⟩
      refine th_y_div56 (w := th_sub c r) (fun k hk => ?_) 9 0 0 0 s 10 rfl (by omega) (by omega) (by omega) (fun _ => ?_) (fun _ => ?_) (fun j _ hj => hI j hj) H'
      · have := (hc k hk).2
        unfold th_sub
        split <;> omega
      · rw [hI 0 (by omega), th_sub0]
      · rw [hI (0 + 1) (by omega), th_sub0]
    · intro n i s hi hI ih
      have e : (nI i).toNatClampNeg = i := nI_clamp (by omega)
      have c20 := (hc i hi).2
      have in9 : vp_in (nI i) 9 := vp_in_nI hi (by omega)
      have in11 : vp_in (nI i) 11 := vp_in_nI (by omega) (by omega)
      have nx : ∀ x : Int32, x = nI (th_sub c r i) → ∀ k, k < i + 1 → upd s i x k = nI (th_sub c r k) := by
        intro x ex k hk
        by_cases z : k = i
        · subst z; rw [pk_us]; exact ex
        · rw [pk_un z]; exact hI k (by omega)
      refine br_f (nI_ge (b := 9) hi (by omega)) (pk_eq i r (fun z => ?_) (fun z => ?_))
      · refine ⟨in9, in11, nm_r (e' := upd s i (nI (c i - 2))) (by rw [e, (hc i hi).1]; congr 1; exact pk_sub (b := 2) (by rw [z]; exact h2)) (nm_r (nI_1 i) (ih _ (nx _ ?_)))⟩
        unfold th_sub; rw [if_pos z]
      · refine ⟨in9, in11, nm_r (e' := upd s i (nI (c i))) (by rw [e, (hc i hi).1]) (nm_r (nI_1 i) (ih _ (nx _ ?_)))⟩
        unfold th_sub; rw [if_neg z]
  · have := H rs
    unfold th_dvp at this
    rw [decide_eq_false (by omega), Bool.false_and] at this
    exact this
theorem th_y_counts {post : Int32 → SY → Prop} {c : Nat → Nat} {sz lk lf lv : Int32} {hv ch gr rs : Nat → Int32} {p a b d : Nat} (hp : p < 9) (hc : ∀ k, k < 9 → ch k = nI (c k) ∧ c k ≤ 20) (ha : a < 14) (hb : b < 14) (hd : d < 14)
    (ga : gr 0 = nI a) (gb : gr 1 = nI b) (gd : gr 2 = nI d)
    (H1 : ¬ (8 < a ∧ a = b ∧ a = d) → (∀ r, r < p → th_dvp c r = false) → ∀ rs' : Nat → Int32, post 1 (sz, lk, lf, lv, hv, ch, gr, rs'))
    (H0 : ¬ (¬ (8 < a ∧ a = b ∧ a = d) ∧ ∀ r, r < p → th_dvp c r = false) → ∀ rs' : Nat → Int32, post 0 (sz, lk, lf, lv, hv, ch, gr, rs')) :
    wpY_counts post (sz, lk, lf, lv, hv, ch, gr, rs) (nI p) := by
  have go : ¬ (8 < a ∧ a = b ∧ a = d) → ∃ n45, wY_counts_45 post (nI p) n45 0 sz lk lf lv hv ch gr rs := by
    intro nt
    refine loop_0 (fun n i s => wY_counts_45 post (nI p) n (nI i) sz lk lf lv hv ch gr s) (fun i _ => ∀ r, r < i → th_dvp c r = false) p rs (fun k hk => absurd hk (by omega)) ?_ ?_
    · intro n s hI
      exact br_t (nI_le (Nat.le_refl p) (by omega)) (H1 nt hI s)
    · intro n i s hi hI ih
      refine br_f (nI_ge hi (by omega)) (th_y_divides (by omega) hc fun rs' => ?_)
      cases z : th_dvp c i with
      | false =>
        refine br_t rfl (nm_r (nI_1 i) (ih rs' fun r hr => ?_))
        by_cases y : r = i
        · rw [y]; exact z
        · exact hI r (by omega)
      | true =>
        refine br_f (by decide) (H0 (fun y => ?_) rs')
        have := y.2 i hi
        rw [z] at this
        cases this
  refine pk_le a 8 (fun h => go (by omega)) (fun h8 => ?_) ga rfl (by omega) (by omega)
  refine pk_eq a b (fun hab => ?_) (fun hab => go (by omega)) ga gb (by omega) (by omega)
  refine pk_eq a d (fun had => ?_) (fun had => go (by omega)) ga gd (by omega) (by omega)
  exact H0 (fun y => y.1 ⟨h8, hab, had⟩) rs

/-- what the reference counts with the pair p -/
noncomputable def th_P (h : Nat → Nat) (p q : Nat) : Bool := th_val q p && th_cn q p && th_B (∀ k, k < 9 → h k ≤ th_dg (th_code (th_cv q p)) k)
theorem th_P_iff {h : Nat → Nat} {p q : Nat} : th_P h p q = true ↔ th_V (th_pr p) q ∧ th_cn q p = true ∧ ∀ k, k < 9 → h k ≤ th_pr p k + th_vec q k := by
  have e : ∀ k, th_pr p k + th_vec q k = th_cv q p k := fun k => by unfold th_pr th_cv; omega
  unfold th_P th_V
  simp only [e]
  rw [Bool.and_eq_true, Bool.and_eq_true, th_val_iff, th_B_iff]
  constructor
  · rintro ⟨⟨a, b⟩, d⟩
    exact ⟨a, b, fun k hk => by rw [← th_dg_code a.2.2 k hk]; exact d k hk⟩
  · rintro ⟨a, b, d⟩
    exact ⟨⟨a, b⟩, fun k hk => by rw [th_dg_code a.2.2 k hk]; exact d k hk⟩
theorem th_P_f {h : Nat → Nat} {p q : Nat} (n : ¬ (th_V (th_pr p) q ∧ th_cn q p = true ∧ ∀ k, k < 9 → h k ≤ th_pr p k + th_vec q k)) : th_P h p q = false := by
  cases z : th_P h p q with
  | false => rfl
  | true => exact absurd (th_P_iff.mp z) n
theorem th_over_le {h c c' : Nat → Nat} (l : ∀ k, k < 9 → c k ≤ c' k) : th_over h c + th_s9 c ≤ th_over h c' + th_s9 c' := by
  unfold th_over
  rw [← th_s9_add, ← th_s9_add]
  exact th_s9_le fun k hk => by have := l k hk; omega
theorem th_pr_s9 {p : Nat} (hp : p < 9) : th_s9 (th_pr p) = 2 := th_pair_s9 p hp
theorem th_y_compl_loop {post : Int32 → SY → Prop} {h : Nat → Nat} {sz : Int32} {hv : Nat → Int32} {p : Nat} (hp : p < 9)
    (H : ∀ (lk' lf' lv' : Int32) (ch' gr' rs' : Nat → Int32), post (nI (th_cnt (th_P h p) 3375)) (sz, lk', lf', lv', hv, ch', gr', rs')) :
    ∀ (n l g0 g1 e : Nat) (lk lf lv : Int32) (ch gr rs : Nat → Int32), th_mu l g0 g1 e < n → th_SS h (th_pr p) (fun _ => 4) l g0 g1 e lk lf lv hv ch gr →
      wY_completeWith_14 post (nI p) n (nI (th_cnt (th_P h p) (th_T l g0 g1 e))) sz lk lf lv hv ch gr rs := by
  intro n
  induction n with
  | zero => intro l g0 g1 e lk lf lv ch gr rs hm; omega
  | succ n ih =>
    intro l g0 g1 e lk lf lv ch gr rs hm S
    have w := S.1
    have w1 := w.1
    refine br_f (by rw [S.2.2.2.1]; exact nI_pos (by omega)) ?_
    refine th_y_choose (Or.inl ⟨rfl, fun _ _ => rfl⟩) (fun _ _ => by decide) S ?_ ?_ ?_ ?_
    · rintro rfl rfl gr'
      refine br_t rfl ?_
      obtain ⟨j, rfl⟩ : ∃ j, n = j + 1 := ⟨n - 1, by unfold th_mu at hm; omega⟩
      have ee : th_cnt (th_P h p) (th_T 0 g0 g1 14) = th_cnt (th_P h p) 3375 := by
        refine (th_cnt_none (by unfold th_T; simp) fun q a b => th_P_f fun v => ?_).symm
        have := th_end (q := q) (by unfold th_T at *; simpa using a) b v.1.1
        have := v.1.2.1
        omega
      rw [ee]
      exact br_t (by decide) (H _ _ _ _ _ _)
    · rintro rfl hl lk' lf' lv' ch' gr' S'
      refine br_t rfl ?_
      have ee : th_cnt (th_P h p) (th_T l g0 g1 14) = th_cnt (th_P h p) (th_T (l - 1) g0 g1 (th_gl l g0 g1 + 1)) := by
        refine (th_cnt_none (Nat.le_of_lt (th_T_up w hl)) fun q a b => th_P_f fun v => ?_).symm
        have := th_up w hl a b v.1.1
        have := v.1.2.1
        omega
      rw [ee]
      exact ih (l - 1) g0 g1 _ _ _ _ _ _ _ (by have := th_mu_up w hl; omega) S'
    · intro h13 hf gr' S'
      refine br_t rfl ?_
      have ee : th_cnt (th_P h p) (th_T l g0 g1 e) = th_cnt (th_P h p) (th_T l g0 g1 (e + 1)) := by
        refine (th_cnt_none (Nat.le_of_lt th_T_next) fun q a b => th_P_f fun v => ?_).symm
        refine absurd (fun k hk => ?_) hf
        have := th_gap (base := th_pr p) w h13 a b k
        have := v.1.2.2 k hk
        omega
      rw [ee]
      exact ih l g0 g1 (e + 1) _ _ _ _ _ _ (by have := th_mu_next w; omega) S'
    · intro h13 lk' lf' ch' gr' S'
      have elv : lv = nI l := S'.2.2.2.2.1
      have elf : lf' = nI (th_over h (fun k => th_ch (th_pr p) l g0 g1 k + th_G e k)) := S'.2.2.1.2.2.2
      have lf180 : th_over h (fun k => th_ch (th_pr p) l g0 g1 k + th_G e k) ≤ 180 := th_over_b fun k hk => (S'.2.2.1.1 k hk).2
      have s9 : th_s9 (fun k => th_ch (th_pr p) l g0 g1 k + th_G e k) = 5 + 3 * l := by
        rw [th_s9_add, th_ch_s9 w, th_pr_s9 hp, th_G_s9 e (by omega), th_one, if_pos (by omega)]
        omega
      have give : ∀ (N : Nat) (rs' : Nat → Int32), th_cnt (th_P h p) (th_T l g0 g1 (e + 1)) = N → wY_completeWith_97 post (wY_completeWith_14 post (nI p) n) (nI p) (nI N) sz lk' lf' lv hv ch' gr' rs' := by
        intro N rs' eN
        rw [← eN]
        exact th_y_give S' fun lk2 lf2 ch2 S2 => ih l g0 g1 (e + 1) _ _ _ _ _ _ (by have := th_mu_next w; omega) S2
      have e32 : 3 * (2 - lv) = nI (3 * (2 - l)) := by
        rw [elv, show (2 : Int32) = nI 2 from rfl, pk_sub w1, show (3 : Int32) = nI 3 from rfl, pk_mul]
      refine br_f (by decide) (pk_lt (3 * (2 - l)) (th_over h (fun k => th_ch (th_pr p) l g0 g1 k + th_G e k)) (fun hlt => ?_) (fun hle => ?_) e32 elf (by omega) (by omega))
      · -- not hopeful
        refine br_t rfl (br_t rfl (give _ rs (th_cnt_none (Nat.le_of_lt th_T_next) fun q a b => th_P_f fun v => ?_)))
        have l1 := th_over_le (h := h) (c := fun k => th_ch (th_pr p) l g0 g1 k + th_G e k) (c' := fun k => th_pr p k + th_vec q k) (fun k _ => th_gap (base := th_pr p) w h13 a b k)
        have l2 : th_over h (fun k => th_pr p k + th_vec q k) = 0 := th_over_0.mpr v.2.2
        have q3 : q < 3375 := by
          have h1 := th_T_lt (th_wf_next w h13)
          omega
        rw [l2, s9, th_s9_add, th_pr_s9 hp, th_vec_s9 q3, v.1.2.1] at l1
        omega
      · refine br_f (by decide) (pk_eq l 2 (fun hl => ?_) (fun hl => ?_) elv rfl (by omega) (by omega))
        · subst hl
          obtain ⟨x1, x2, x3, x4, x5, x6⟩ := th_wq_s w h13
          have g13 := w.2.2.1 (by omega)
          have g23 := w.2.2.2 (by omega)
          have wq : th_wq 2 g0 g1 e = g0 * 225 + g1 * 15 + e := rfl
          have da : th_a (th_wq 2 g0 g1 e) = g0 := by rw [wq]; unfold th_a; omega
          have db : th_b (th_wq 2 g0 g1 e) = g1 := by rw [wq]; unfold th_b; omega
          have dc : th_c (th_wq 2 g0 g1 e) = e := by rw [wq]; unfold th_c; omega
          have cvk : ∀ k, th_ch (th_pr p) 2 g0 g1 k + th_G e k = th_cv (th_wq 2 g0 g1 e) p k := fun k => by
            rw [← x6]; unfold th_pr th_cv; omega
          have V : th_V (th_pr p) (th_wq 2 g0 g1 e) := ⟨x1, x2, fun k hk => by rw [x6]; exact S'.2.2.2.1 k hk⟩
          have hh : ∀ k, k < 9 → h k ≤ th_pr p k + th_vec (th_wq 2 g0 g1 e) k := by
            intro k hk
            rw [x6]
            exact th_over_0.mp (show th_over h (fun k => th_ch (th_pr p) 2 g0 g1 k + th_G e k) = 0 by omega) k hk
          have dvp : ∀ r, r < 9 → th_dvp (fun k => th_ch (th_pr p) 2 g0 g1 k + th_G e k) r = th_dvp (th_cv (th_wq 2 g0 g1 e) p) r := fun r hr => th_dvp_ext hr fun k _ => cvk k
          have trip : th_trip (th_wq 2 g0 g1 e) = true ↔ (8 < g0 ∧ g0 = g1 ∧ g0 = e) := by
            unfold th_trip
            rw [Bool.and_eq_true, Bool.and_eq_true, decide_eq_true_eq, decide_eq_true_eq, decide_eq_true_eq, da, db, dc, and_assoc]
          have cn : th_cn (th_wq 2 g0 g1 e) p = true ↔ (¬ (8 < g0 ∧ g0 = g1 ∧ g0 = e) ∧ ∀ r, r < p → th_dvp (fun k => th_ch (th_pr p) 2 g0 g1 k + th_G e k) r = false) := by
            rw [th_cn_iff, ← trip, Bool.not_eq_true]
            constructor
            · rintro ⟨a, b⟩
              exact ⟨a, fun r hr => by rw [dvp r (by omega)]; exact b r hr⟩
            · rintro ⟨a, b⟩
              exact ⟨a, fun r hr => by rw [← dvp r (by omega)]; exact b r hr⟩
          have l2 : (2 : Int32) ≤ lv := by rw [elv]; exact nI_le (a := 2) (b := 2) (by omega) (by omega)
          refine th_y_counts (c := fun k => th_ch (th_pr p) 2 g0 g1 k + th_G e k) (a := g0) (b := g1) (d := e) hp S'.2.2.1.2.1 (by omega) (by omega) (by omega) (S'.2.2.2.2.2.1 (by omega)) (S'.2.2.2.2.2.2.1 (by omega)) S'.2.2.2.2.2.2.2 ?_ ?_
          · intro nt nd rs'
            refine br_f (by decide) (nm_r (nI_1 _) (br_f (by decide) (br_t l2 (give _ rs' ?_))))
            exact th_cnt_one (th_wq 2 g0 g1 e) x3 x4 (th_P_iff.mpr ⟨V, cn.mpr ⟨nt, nd⟩, hh⟩) fun q a b _ => th_leaf a b
          · intro nn rs'
            refine br_t rfl (br_f (by decide) (br_t l2 (give _ rs' ?_)))
            refine th_cnt_none (Nat.le_of_lt th_T_next) fun q a b => th_P_f fun v => ?_
            rw [th_leaf a b] at v
            exact nn (cn.mp v.2.1)
        · refine br_f (by decide) (br_f (by rw [elv]; exact nI_ge (b := 2) (by omega) (by omega)) ?_)
          have ee : th_cnt (th_P h p) (th_T l g0 g1 e) = th_cnt (th_P h p) (th_T (l + 1) (th_n0 l g0 e) (th_n1 l g1 e) e) := by
            refine (th_cnt_none (th_T_deep (by omega)) fun q a b => th_P_f fun v => ?_).symm
            have z := v.1.1
            rw [th_deep w h13 (by omega) a b] at z
            cases z
          rw [ee]
          exact th_y_deeper (by omega) S' fun lv2 gr2 S2 => ih (l + 1) _ _ e _ _ _ _ _ _ (by have := th_mu_deep (l := l) (g0 := g0) (g1 := g1) (e := e) (by omega); omega) S2
theorem th_y_completeWith {post : Int32 → SY → Prop} {h : Nat → Nat} {sz lk lf lv : Int32} {hv ch gr rs : Nat → Int32} {p : Nat} (hp : p < 9) (Y : th_YC h (th_pr p) lk lf hv ch)
    (H : ∀ (lk' lf' lv' : Int32) (ch' gr' rs' : Nat → Int32), post (nI (th_cnt (th_P h p) 3375)) (sz, lk', lf', lv', hv, ch', gr', rs')) :
    wpY_completeWith post (sz, lk, lf, lv, hv, ch, gr, rs) (nI p) := by
  refine nm_r (e' := upd gr 0 (-1)) rfl ⟨th_mu 0 0 0 0 + 1, ?_⟩
  exact th_y_compl_loop hp H _ 0 0 0 0 _ _ 0 _ _ _ (by omega) (th_SS_0 Y fun k hk => by unfold th_pr; split <;> omega)
end
section
/-! the reference: distance, isNearer, wantedFrom, hopeFrom -/
theorem th_V_CH {h : Nat → Nat} {p q : Nat} (hp : p < 9) (hq : q < 3375) (v : th_V (th_pr p) q) : th_CH (th_code (th_cv q p)) ∧ th_lv h (th_pr p) q = th_miss h (th_code (th_cv q p)) := by
  have e : ∀ k, th_pr p k + th_vec q k = th_cv q p k := fun k => by unfold th_pr th_cv; omega
  have h4 : ∀ k, k < 9 → th_cv q p k ≤ 4 := fun k hk => by rw [← e]; exact v.2.2 k hk
  refine ⟨⟨q, p, hq, hp, th_val_iff.mpr ⟨v.1, v.2.1, h4⟩, rfl⟩, ?_⟩
  unfold th_lv th_miss
  exact th_over_ext fun k hk => by rw [th_dg_code h4 k hk, e]
theorem th_CH_V {h : Nat → Nat} {x : Nat} (c : th_CH x) : ∃ p q, p < 9 ∧ q < 3375 ∧ th_V (th_pr p) q ∧ th_lv h (th_pr p) q = th_miss h x := by
  obtain ⟨q, p, hq, hp, v, rfl⟩ := c
  obtain ⟨v1, v2, v3⟩ := th_val_iff.mp v
  have V : th_V (th_pr p) q := ⟨v1, v2, fun k hk => by have := v3 k hk; unfold th_pr; unfold th_cv at this; omega⟩
  exact ⟨p, q, hp, hq, V, (th_V_CH hp hq V).2⟩
theorem th_pr4 {p k : Nat} : th_pr p k ≤ 4 := by unfold th_pr; split <;> omega
theorem th_y_distance {post : Int32 → SY → Prop} {h : Nat → Nat} {sz lk lf lv : Int32} {hv ch gr rs : Nat → Int32} (Y : th_YH h sz hv)
    (H : ∀ (lk' lf' lv' : Int32) (ch' gr' : Nat → Int32), post (nI (th_dist h)) (sz, lk', lf', lv', hv, ch', gr', rs)) :
    wpY_distance post (sz, lk, lf, lv, hv, ch, gr, rs) := by
  have s12 := Y.2.2.2
  have go : ∀ en, en ≤ 11 - th_s9 h → ∃ n26, wY_distance_26 post (nI en) n26 (nI 12) (nI 0) sz lk lf lv hv ch gr rs := by
    intro en hen
    refine loop_0 (fun n i (s : Int32 × Int32 × Int32 × Int32 × (Nat → Int32) × (Nat → Int32)) => wY_distance_26 post (nI en) n s.1 (nI i) sz s.2.1 s.2.2.1 s.2.2.2.1 hv s.2.2.2.2.1 s.2.2.2.2.2 rs)
      (fun i s => ∃ r, s.1 = nI r ∧ r ≤ 12 ∧ (r = 12 ∨ ∃ p q, p < 9 ∧ q < 3375 ∧ th_V (th_pr p) q ∧ r = th_lv h (th_pr p) q) ∧ ∀ p, p < i → r ≤ en ∨ ∀ q, q < 3375 → th_V (th_pr p) q → r ≤ th_lv h (th_pr p) q)
      9 (nI 12, lk, lf, lv, ch, gr) ⟨12, rfl, by omega, Or.inl rfl, fun p hp => absurd hp (by omega)⟩ ?_ ?_
    · rintro n ⟨x1, lk1, lf1, lv1, ch1, gr1⟩ ⟨r, e1, r12, ex, al⟩
      dsimp only at e1
      subst e1
      have ge := th_dist_ge h
      have d11 := th_dist_11 h
      have er : r = th_dist h := by
        obtain ⟨x, cx, mx⟩ := th_dist_ex h
        obtain ⟨p, q, hp, hq, V, ev⟩ := th_CH_V (h := h) cx
        have up : r ≤ th_dist h := by
          rcases al p hp with z | z
          · omega
          · have := z q hq V; omega
        rcases ex with z | ⟨p', q', hp', hq', V', ev'⟩
        · omega
        · obtain ⟨c1, c2⟩ := th_V_CH (h := h) hp' hq' V'
          have := th_dist_le (h := h) c1
          omega
      rw [er]
      exact br_t (nI_le (a := 9) (b := 9) (by omega) (by omega)) (H lk1 lf1 lv1 ch1 gr1)
    · rintro n p ⟨x1, lk1, lf1, lv1, ch1, gr1⟩ hp ⟨r, e1, r12, ex, al⟩ ih
      dsimp only at e1 ih ⊢
      subst e1
      refine br_f (nI_ge (b := 9) hp (by omega)) (th_y_pair hp Y fun lk2 lf2 ch2 Y2 => ?_)
      refine th_y_leastWith (by omega) (by omega) Y2 (fun k _ => th_pr4) fun r' lk3 lf3 lv3 ch3 gr3 a1 a2 a3 => ?_
      refine nm_r (nI_1 p) (ih (nI r', lk3, lf3, lv3, ch3, gr3) ⟨r', rfl, by omega, ?_, ?_⟩)
      · rcases a2 with z | ⟨q, hq, V, e⟩
        · rw [z]; exact ex
        · exact Or.inr ⟨p, q, hp, hq, V, e⟩
      · intro p' hp'
        by_cases z : p' = p
        · rw [z]; exact a3
        · rcases al p' (by omega) with y | y
          · exact Or.inl (by omega)
          · exact Or.inr fun q hq V => by have := y q hq V; omega
  refine pk_le 11 (th_s9 h) (fun z => ?_) (fun z => ?_) rfl Y.2.2.1 (by omega) (by omega)
  · exact go 0 (by omega)
  · refine nm_r (e' := nI (11 - th_s9 h)) (by rw [Y.2.2.1]; exact pk_sub (a := 11) (by omega)) (go _ (Nat.le_refl _))
theorem th_dist_lt {h : Nat → Nat} {d : Nat} : th_dist h < d ↔ ∃ p q, p < 9 ∧ q < 3375 ∧ th_V (th_pr p) q ∧ th_lv h (th_pr p) q < d := by
  constructor
  · intro l
    obtain ⟨x, cx, mx⟩ := th_dist_ex h
    obtain ⟨p, q, hp, hq, V, ev⟩ := th_CH_V (h := h) cx
    exact ⟨p, q, hp, hq, V, by omega⟩
  · rintro ⟨p, q, hp, hq, V, l⟩
    obtain ⟨c1, c2⟩ := th_V_CH (h := h) hp hq V
    have := th_dist_le (h := h) c1
    omega
theorem th_y_isNearer {post : Int32 → SY → Prop} {h : Nat → Nat} {sz lk lf lv : Int32} {hv ch gr rs : Nat → Int32} {d : Nat} (hd : d ≤ 100) (Y : th_YH h sz hv)
    (H1 : th_dist h < d → ∀ (lk' lf' lv' : Int32) (ch' gr' : Nat → Int32), post 1 (sz, lk', lf', lv', hv, ch', gr', rs))
    (H0 : ¬ th_dist h < d → ∀ (lk' lf' lv' : Int32) (ch' gr' : Nat → Int32), post 0 (sz, lk', lf', lv', hv, ch', gr', rs)) :
    wpY_isNearer post (sz, lk, lf, lv, hv, ch, gr, rs) (nI d) := by
  refine loop_0 (fun n i (s : Int32 × Int32 × Int32 × (Nat → Int32) × (Nat → Int32)) => wY_isNearer_2 post (nI d) n (nI i) sz s.1 s.2.1 s.2.2.1 hv s.2.2.2.1 s.2.2.2.2 rs)
    (fun i _ => ∀ p q, p < i → q < 3375 → th_V (th_pr p) q → d ≤ th_lv h (th_pr p) q) 9 (lk, lf, lv, ch, gr) (fun p q hp => absurd hp (by omega)) ?_ ?_
  · rintro n ⟨lk1, lf1, lv1, ch1, gr1⟩ hI
    refine br_t (nI_le (a := 9) (b := 9) (by omega) (by omega)) (H0 (fun z => ?_) lk1 lf1 lv1 ch1 gr1)
    obtain ⟨p, q, hp, hq, V, l⟩ := th_dist_lt.mp z
    have := hI p q hp hq V
    omega
  · rintro n p ⟨lk1, lf1, lv1, ch1, gr1⟩ hp hI ih
    dsimp only at ih ⊢
    refine br_f (nI_ge (b := 9) hp (by omega)) (th_y_pair hp Y fun lk2 lf2 ch2 Y2 => ?_)
    have nx : (∀ q, q < 3375 → th_V (th_pr p) q → d ≤ th_lv h (th_pr p) q) → ∀ p' q, p' < p + 1 → q < 3375 → th_V (th_pr p') q → d ≤ th_lv h (th_pr p') q := by
      intro a p' q hp' hq V
      by_cases z : p' = p
      · rw [z] at V ⊢; exact a q hq V
      · exact hI p' q (by omega) hq V
    have b180 := th_over_b (h := h) (c := th_pr p) fun k _ => by have := th_pr4 (p := p) (k := k); omega
    refine pk_le d (th_over (th_pr p) h) (fun hle => ?_) (fun hlt => ?_) rfl Y2.2.2.1 (by omega) (by omega)
    · refine br_t (nI_le (Nat.le_refl d) (by omega)) (nm_r (nI_1 p) (ih (lk2, lf2, lv1, ch2, gr1) (nx fun q hq V => ?_)))
      have : th_over (th_pr p) h ≤ th_lv h (th_pr p) q := th_over_mono fun k _ => by omega
      omega
    · rw [th_s1 (by omega)]
      refine th_y_leastWith hd (by omega) Y2 (fun k _ => th_pr4) fun r lk3 lf3 lv3 ch3 gr3 a1 a2 a3 => ?_
      refine pk_le d r (fun hle => ?_) (fun hlr => ?_)
      · refine nm_r (nI_1 p) (ih (lk3, lf3, lv3, ch3, gr3) (nx fun q hq V => ?_))
        rcases a3 with z | z
        · omega
        · have := z q hq V; omega
      · refine H1 (th_dist_lt.mpr ?_) lk3 lf3 lv3 ch3 gr3
        rcases a2 with z | ⟨q, hq, V, e⟩
        · omega
        · exact ⟨p, q, hp, hq, V, by omega⟩
/-- masks -/
def th_WM (h : Nat → Nat) (n : Nat) (m : Int32) : Prop := ∀ i, i < 32 → (bt m i = true ↔ i < n ∧ th_want h i = true)
theorem th_WM_0 {h : Nat → Nat} : th_WM h 0 0 := fun i _ => by
  rw [b_0]
  exact ⟨fun z => (by cases z), fun z => absurd z.1 (by omega)⟩
theorem th_WM_s {h : Nat → Nat} {n : Nat} {m : Int32} (hn : n < 9) (W : th_WM h n m) (w : th_want h n = true) : th_WM h (n + 1) (m ||| ((1 : Int32) <<< (nI n &&& 31))) := by
  intro i hi
  rw [b_or, th_bp (by omega) hi, Bool.or_eq_true, W i hi, decide_eq_true_eq]
  constructor
  · rintro (z | z)
    · exact ⟨by omega, z.2⟩
    · exact ⟨by omega, by rw [z]; exact w⟩
  · rintro ⟨z, y⟩
    by_cases e : i = n
    · exact Or.inr e
    · exact Or.inl ⟨by omega, y⟩
theorem th_WM_n {h : Nat → Nat} {n : Nat} {m : Int32} (W : th_WM h n m) (w : ¬ th_want h n = true) : th_WM h (n + 1) m := by
  intro i hi
  rw [W i hi]
  constructor
  · rintro ⟨z, y⟩
    exact ⟨by omega, y⟩
  · rintro ⟨z, y⟩
    refine ⟨?_, y⟩
    by_cases e : i = n
    · rw [e] at y; exact absurd y w
    · omega
def th_M (h : Nat → Nat) : Int32 := th_mk (th_want h) 9
theorem th_WM_M {h : Nat → Nat} : ∀ n, n ≤ 9 → th_WM h n (th_mk (th_want h) n)
  | 0, _ => th_WM_0
  | n + 1, hn => by
    unfold th_mk
    split
    · rename_i z; exact th_WM_s (by omega) (th_WM_M n (by omega)) z
    · rename_i z; exact th_WM_n (th_WM_M n (by omega)) z
theorem th_WM_u {h : Nat → Nat} {m : Int32} (W : th_WM h 9 m) : m = th_M h := by
  apply b_ext
  intro i hi
  have a := W i hi
  have b := th_WM_M (h := h) 9 (by omega) i hi
  unfold th_M
  cases z : bt m i with
  | true => exact (b.mpr (a.mp z)).symm
  | false =>
    cases y : bt (th_mk (th_want h) 9) i with
    | false => rfl
    | true => rw [a.mpr (b.mp y)] at z; cases z
theorem th_YH_inc {h : Nat → Nat} {sz : Int32} {hv : Nat → Int32} {k : Nat} (hk : k < 9) (Y : th_YH h sz hv) (h4 : h k < 4) (s : th_s9 h ≤ 11) : th_YH (th_inc h k) (nI (th_s9 h + 1)) (upd hv k (nI (h k + 1))) := by
  have e := th_s9_put (fun _ y => y) h (h k + 1) k hk
  have e' : th_s9 (th_inc h k) = th_s9 (fun j => th_put h k (h k + 1) j) := th_s9_ext fun j _ => th_inc_put j
  have es : th_s9 (th_inc h k) = th_s9 h + 1 := by
    have : th_s9 (fun j => h j) = th_s9 h := rfl
    rw [e']; omega
  refine ⟨fun j hj => ?_, fun j hj => ?_, by rw [es], by omega⟩
  · by_cases z : j = k
    · subst z; rw [pk_us]; unfold th_inc; rw [if_pos rfl]
    · rw [pk_un z]; unfold th_inc; rw [if_neg z]; exact Y.1 j hj
  · have := Y.2.1 j hj
    unfold th_inc
    split
    · rename_i z; rw [z] at *; omega
    · omega
theorem th_upd2 {f : Nat → Int32} {k : Nat} {x y : Int32} (e : y = f k) : upd (upd f k x) k y = f := by
  funext j
  by_cases z : j = k
  · subst z; rw [pk_us]; exact e
  · rw [pk_un z, pk_un z]
theorem th_y_wantedFrom {post : Int32 → SY → Prop} {h : Nat → Nat} {sz lk lf lv : Int32} {hv ch gr rs : Nat → Int32} (Y : th_YH h sz hv) (s11 : th_s9 h ≤ 11)
    (H : ∀ (lk' lf' lv' : Int32) (ch' gr' : Nat → Int32), post (th_M h) (sz, lk', lf', lv', hv, ch', gr', rs)) :
    wpY_wantedFrom post (sz, lk, lf, lv, hv, ch, gr, rs) (nI (th_dist h)) := by
  have d11 := th_dist_11 h
  refine loop_0 (fun n i (s : Int32 × Int32 × Int32 × Int32 × (Nat → Int32) × (Nat → Int32)) => wY_wantedFrom_4 post (nI (th_dist h)) n s.1 (nI i) sz s.2.1 s.2.2.1 s.2.2.2.1 hv s.2.2.2.2.1 s.2.2.2.2.2 rs)
    (fun i s => th_WM h i s.1) 9 (0, lk, lf, lv, ch, gr) th_WM_0 ?_ ?_
  · rintro n ⟨x2, lk1, lf1, lv1, ch1, gr1⟩ W
    dsimp only at W ⊢
    rw [th_WM_u W]
    exact br_t (nI_le (a := 9) (b := 9) (by omega) (by omega)) (H lk1 lf1 lv1 ch1 gr1)
  · rintro n k ⟨x2, lk1, lf1, lv1, ch1, gr1⟩ hk W ih
    dsimp only at W ih ⊢
    have ek : (nI k).toNatClampNeg = k := nI_clamp (by omega)
    have in9 : vp_in (nI k) 9 := vp_in_nI hk (by omega)
    have h4 := Y.2.1 k hk
    have near : th_dist (th_inc h k) < th_dist h ↔ th_want h k = true := by
      rw [← th_near hk, th_dist_ext fun j _ => th_inc_put j]
    refine br_f (nI_ge (b := 9) hk (by omega)) ⟨in9, pk_le 4 (h k) (fun z => ?_) (fun z => ?_) rfl (by rw [ek]; exact Y.1 k hk) (by omega) (by omega)⟩
    · refine nm_r (nI_1 k) (ih (x2, lk1, lf1, lv1, ch1, gr1) (th_WM_n W fun w => ?_))
      have := th_want_4 w
      omega
    · have back : ∀ (x2 lk2 lf2 lv2 : Int32) (ch2 gr2 : Nat → Int32), th_WM h (k + 1) x2 →
          wY_wantedFrom_44 post (wY_wantedFrom_4 post (nI (th_dist h)) n) (nI (th_dist h)) x2 (nI k) (nI (th_s9 h + 1)) lk2 lf2 lv2 (upd hv k (nI (h k + 1))) ch2 gr2 rs := by
        intro x2 lk2 lf2 lv2 ch2 gr2 W2
        refine ⟨in9, in9, nm_r (e' := hv) ?_ (nm_r (e' := sz) (by rw [pk_m1, Y.2.2.1]) (nm_r (nI_1 k) (ih (x2, lk2, lf2, lv2, ch2, gr2) W2)))⟩
        rw [ek, pk_us, pk_m1]
        exact th_upd2 (Y.1 k hk).symm
      refine ⟨in9, in9, nm_r (e' := upd hv k (nI (h k + 1))) (by rw [ek, Y.1 k hk, nI_1]) (nm_r (e' := nI (th_s9 h + 1)) (by rw [Y.2.2.1, nI_1]) ?_)⟩
      refine th_y_isNearer (by omega) (th_YH_inc hk Y z s11) (fun l lk2 lf2 lv2 ch2 gr2 => ?_) (fun l lk2 lf2 lv2 ch2 gr2 => ?_)
      · exact br_f (by decide) (nm_e (back _ lk2 lf2 lv2 ch2 gr2 (th_WM_s hk W (near.mp l))))
      · exact br_t rfl (back _ lk2 lf2 lv2 ch2 gr2 (th_WM_n W fun w => l (near.mpr w)))
/-- the hope, as both sum it up -/
def th_hs (m : Int32) (a : Nat → Int32) : Nat → Int32
  | 0 => 0
  | n + 1 => if bt m n then th_hs m a n + (4 - a n) else th_hs m a n
theorem th_hs_ext {m : Int32} {a b : Nat → Int32} : ∀ n, (∀ k, k < n → a k = b k) → th_hs m a n = th_hs m b n
  | 0, _ => rfl
  | n + 1, h => by
    unfold th_hs
    rw [th_hs_ext n (fun k hk => h k (by omega)), h n (by omega)]
def th_hpv (h : Nat → Nat) : Int32 := th_hs (th_M h) (fun k => nI (h k)) 9
theorem th_y_hopeFrom {post : Int32 → SY → Prop} {h : Nat → Nat} {sz lk lf lv : Int32} {hv ch gr rs : Nat → Int32} (Y : th_YH h sz hv) (s11 : th_s9 h ≤ 11)
    (H : ∀ (lk' lf' lv' : Int32) (ch' gr' : Nat → Int32), post (th_hpv h) (sz, lk', lf', lv', hv, ch', gr', rs)) :
    wpY_hopeFrom post (sz, lk, lf, lv, hv, ch, gr, rs) (nI (th_dist h)) := by
  unfold wpY_hopeFrom
  dsimp only
  refine th_y_wantedFrom Y s11 fun lk1 lf1 lv1 ch1 gr1 => ?_
  refine loop_0 (fun n i s => wY_hopeFrom_11 post (th_M h) sz lk1 lf1 lv1 hv ch1 gr1 rs n s (nI i)) (fun i s => s = th_hs (th_M h) hv i) 9 0 rfl ?_ ?_
  · intro n s e
    have := H lk1 lf1 lv1 ch1 gr1
    unfold th_hpv at this
    rw [← th_hs_ext 9 Y.1, ← e] at this
    exact br_t (nI_le (a := 9) (b := 9) (by omega) (by omega)) this
  · intro n k s hk e ih
    have ek : (nI k).toNatClampNeg = k := nI_clamp (by omega)
    refine br_f (nI_ge (b := 9) hk (by omega)) (br_c (fun z => ?_) (fun z => ?_))
    · refine ⟨vp_in_nI hk (by omega), nm_r (e' := s + (4 - hv k)) (by rw [ek]) (nm_r (nI_1 k) (ih _ ?_))⟩
      unfold th_hs
      rw [if_pos ((th_bshr (by omega)).mp z), e]
    · refine nm_r (nI_1 k) (ih _ ?_)
      unfold th_hs
      rw [if_neg (fun y => z ((th_bshr (by omega)).mpr y)), e]
end
section
/-! the reference: best, ways, completions -/
def th_bs (h : Nat → Nat) : Nat → Option (Int32 × Int32 × Int32)
  | 0 => none
  | k + 1 => if h k = 0 then th_bs h k else
    match th_bs h k with
    | none => some (nI k, nI (th_dist (th_dec h k)), th_hpv (th_dec h k))
    | some (b, d, m) => if nI (th_dist (th_dec h k)) < d ∨ (nI (th_dist (th_dec h k)) = d ∧ ¬ th_hpv (th_dec h k) ≤ m) then some (nI k, nI (th_dist (th_dec h k)), th_hpv (th_dec h k)) else some (b, d, m)
def th_bv (h : Nat → Nat) : Int32 := match th_bs h 9 with
  | none => -4
  | some (b, _, _) => b
theorem th_bs_0 {h : Nat → Nat} {k : Nat} (z : h k = 0) : th_bs h (k + 1) = th_bs h k := by
  show (if h k = 0 then _ else _) = _
  rw [if_pos z]
theorem th_bs_n {h : Nat → Nat} {k : Nat} (z : h k ≠ 0) (e : th_bs h k = none) : th_bs h (k + 1) = some (nI k, nI (th_dist (th_dec h k)), th_hpv (th_dec h k)) := by
  show (if h k = 0 then _ else _) = _
  rw [if_neg z, e]
theorem th_bs_t {h : Nat → Nat} {k : Nat} {b d m : Int32} (z : h k ≠ 0) (e : th_bs h k = some (b, d, m)) (c : nI (th_dist (th_dec h k)) < d ∨ (nI (th_dist (th_dec h k)) = d ∧ ¬ th_hpv (th_dec h k) ≤ m)) :
    th_bs h (k + 1) = some (nI k, nI (th_dist (th_dec h k)), th_hpv (th_dec h k)) := by
  show (if h k = 0 then _ else _) = _
  rw [if_neg z, e]
  exact if_pos c
theorem th_bs_f {h : Nat → Nat} {k : Nat} {b d m : Int32} (z : h k ≠ 0) (e : th_bs h k = some (b, d, m)) (c : ¬ (nI (th_dist (th_dec h k)) < d ∨ (nI (th_dist (th_dec h k)) = d ∧ ¬ th_hpv (th_dec h k) ≤ m))) :
    th_bs h (k + 1) = some (b, d, m) := by
  show (if h k = 0 then _ else _) = _
  rw [if_neg z, e]
  exact if_neg c
theorem th_s9_dec {h : Nat → Nat} {k : Nat} (hk : k < 9) (h1 : 0 < h k) : th_s9 (th_dec h k) + 1 = th_s9 h := by
  have e := th_s9_put (fun _ y => y) h (h k - 1) k hk
  have e' : th_s9 (th_dec h k) = th_s9 (fun j => th_put h k (h k - 1) j) := th_s9_ext fun j _ => th_dec_put j
  have : th_s9 (fun j => h j) = th_s9 h := rfl
  omega
theorem th_dec_upd {h : Nat → Nat} {hv : Nat → Int32} {k : Nat} (Y : ∀ k, k < 9 → hv k = nI (h k)) : ∀ j, j < 9 → upd hv k (nI (h k - 1)) j = nI (th_dec h k j) := by
  intro j hj
  by_cases z : j = k
  · subst z; rw [pk_us]; unfold th_dec; rw [if_pos rfl]
  · rw [pk_un z]; unfold th_dec; rw [if_neg z]; exact Y j hj
theorem th_YH_dec {h : Nat → Nat} {sz : Int32} {hv : Nat → Int32} {k : Nat} (hk : k < 9) (Y : th_YH h sz hv) (h1 : 0 < h k) : th_YH (th_dec h k) (nI (th_s9 h - 1)) (upd hv k (nI (h k - 1))) := by
  have e := th_s9_dec hk h1
  have := Y.2.2.2
  refine ⟨th_dec_upd Y.1, fun j hj => ?_, ?_, by omega⟩
  · have := Y.2.1 j hj
    unfold th_dec
    omega
  · congr 1; omega
theorem th_m1 {n : Nat} (h : 0 < n) : nI n + (-1) = nI (n - 1) := by
  obtain ⟨m, rfl⟩ : ∃ m, n = m + 1 := ⟨n - 1, by omega⟩
  exact pk_m1 m
theorem th_y_best {post : Int32 → SY → Prop} {h : Nat → Nat} {sz lk lf lv : Int32} {hv ch gr rs : Nat → Int32} (Y : th_YH h sz hv)
    (H : ∀ (lk' lf' lv' : Int32) (ch' gr' : Nat → Int32), post (th_bv h) (sz, lk', lf', lv', hv, ch', gr', rs)) :
    wpY_best post (sz, lk, lf, lv, hv, ch, gr, rs) := by
  refine loop_0 (fun n i (s : Int32 × Int32 × Int32 × Int32 × Int32 × Int32 × (Nat → Int32) × (Nat → Int32)) => wY_best_11 post n s.1 s.2.1 s.2.2.1 (nI i) sz s.2.2.2.1 s.2.2.2.2.1 s.2.2.2.2.2.1 hv s.2.2.2.2.2.2.1 s.2.2.2.2.2.2.2 rs)
    (fun i s => (th_bs h i = none ∧ s.1 = -4 ∧ s.2.1 = 12 ∧ s.2.2.1 = -1) ∨ th_bs h i = some (s.1, s.2.1, s.2.2.1)) 9 (-4, 12, -1, lk, lf, lv, ch, gr) (Or.inl ⟨rfl, rfl, rfl, rfl⟩) ?_ ?_
  · rintro n ⟨x1, x2, x3, lk1, lf1, lv1, ch1, gr1⟩ I
    dsimp only at I ⊢
    have e : x1 = th_bv h := by
      unfold th_bv
      rcases I with ⟨a, b, _, _⟩ | a
      · rw [a, b]
      · rw [a]
    rw [e]
    exact br_t (nI_le (a := 9) (b := 9) (by omega) (by omega)) (H lk1 lf1 lv1 ch1 gr1)
  · rintro n k ⟨x1, x2, x3, lk1, lf1, lv1, ch1, gr1⟩ hk I ih
    dsimp only at I ih ⊢
    have ek : (nI k).toNatClampNeg = k := nI_clamp (by omega)
    have in9 : vp_in (nI k) 9 := vp_in_nI hk (by omega)
    have h4 := Y.2.1 k hk
    have s12 := Y.2.2.2
    refine br_f (nI_ge (b := 9) hk (by omega)) ⟨in9, pk_le (h k) 0 (fun z => ?_) (fun z => ?_) (by rw [ek]; exact Y.1 k hk) rfl (by omega) (by omega)⟩
    · refine nm_r (nI_1 k) (ih (x1, x2, x3, lk1, lf1, lv1, ch1, gr1) ?_)
      dsimp only
      rw [th_bs_0 (by omega)]
      exact I
    · have sp := th_s9_dec hk z
      have Y' := th_YH_dec hk Y z
      have d11 := th_dist_11 (th_dec h k)
      have back : ∀ (x1 x2 x3 lk2 lf2 lv2 : Int32) (ch2 gr2 : Nat → Int32), ((th_bs h (k + 1) = none ∧ x1 = -4 ∧ x2 = 12 ∧ x3 = -1) ∨ th_bs h (k + 1) = some (x1, x2, x3)) →
          wY_best_86 post (wY_best_11 post n) x1 x2 x3 (nI k) (nI (th_s9 h - 1)) lk2 lf2 lv2 (upd hv k (nI (h k - 1))) ch2 gr2 rs := by
        intro x1 x2 x3 lk2 lf2 lv2 ch2 gr2 I2
        refine ⟨in9, in9, nm_r (e' := hv) ?_ (nm_r (e' := sz) (by rw [nI_1, Y.2.2.1]; congr 1; omega) (nm_r (nI_1 k) (ih (x1, x2, x3, lk2, lf2, lv2, ch2, gr2) I2)))⟩
        rw [ek, pk_us, nI_1]
        exact th_upd2 (by rw [Y.1 k hk]; congr 1; omega)
      refine ⟨in9, in9, nm_r (e' := upd hv k (nI (h k - 1))) (by rw [ek, Y.1 k hk, th_m1 z]) (nm_r (e' := nI (th_s9 h - 1)) (by rw [Y.2.2.1, th_m1 (by omega)]) ?_)⟩
      refine th_y_distance Y' fun lk2 lf2 lv2 ch2 gr2 => ?_
      have hopeful : ∀ (lk3 lf3 lv3 : Int32) (ch3 gr3 : Nat → Int32), wY_best_57 post (wY_best_11 post n) x1 x2 x3 (nI k) (nI (th_dist (th_dec h k))) (th_hpv (th_dec h k)) (nI (th_s9 h - 1)) lk3 lf3 lv3 (upd hv k (nI (h k - 1))) ch3 gr3 rs := by
        intro lk3 lf3 lv3 ch3 gr3
        rcases I with ⟨a, b, c, d⟩ | a
        · subst b c d
          refine br_t (nI_lt (b := 12) (by omega) (by omega)) (back _ _ _ lk3 lf3 lv3 ch3 gr3 (Or.inr (th_bs_n (by omega) a)))
        · refine br_c (fun u => back _ _ _ lk3 lf3 lv3 ch3 gr3 (Or.inr (th_bs_t (by omega) a (Or.inl u)))) (fun u => br_c (fun v => br_c (fun t => ?_) (fun t => ?_)) (fun v => ?_))
          · exact back _ _ _ lk3 lf3 lv3 ch3 gr3 (Or.inr (th_bs_f (by omega) a (fun y => y.elim u fun y => y.2 t)))
          · exact back _ _ _ lk3 lf3 lv3 ch3 gr3 (Or.inr (th_bs_t (by omega) a (Or.inr ⟨v, t⟩)))
          · exact back _ _ _ lk3 lf3 lv3 ch3 gr3 (Or.inr (th_bs_f (by omega) a (fun y => y.elim u fun y => v y.1)))
      refine br_c (fun u => ?_) (fun u => th_y_hopeFrom Y' (by omega) fun lk3 lf3 lv3 ch3 gr3 => hopeful lk3 lf3 lv3 ch3 gr3)
      rcases I with ⟨a, b, c, d⟩ | a
      · subst c
        exact absurd u (nI_nlt (b := th_dist (th_dec h k)) (a := 12) (by omega) (by omega))
      · have nl : ¬ nI (th_dist (th_dec h k)) < x2 := fun y => Int32.lt_irrefl (Int32.lt_trans y u)
        have ne : ¬ nI (th_dist (th_dec h k)) = x2 := fun y => Int32.lt_irrefl (a := x2) (by rw [y] at u; exact u)
        refine br_f nl (br_f ne (back _ _ _ lk2 lf2 lv2 ch2 gr2 (Or.inr (th_bs_f (by omega) a (fun y => y.elim nl fun y => ne y.1)))))
/-- ways -/
def th_way (h : Nat → Nat) (n q : Nat) : Prop := th_srt q = true ∧ ∃ p, p < n ∧ ∀ k, k < 9 → h k = th_pr p k + th_vec q k
theorem th_way_s9 {h : Nat → Nat} {n q : Nat} (hn : n ≤ 9) (hq : q < 3375) (w : th_way h n q) : th_s9 h = 2 + 3 * th_sz q := by
  obtain ⟨_, p, hp, e⟩ := w
  rw [th_s9_ext e, th_s9_add, th_pr_s9 (by omega), th_vec_s9 hq]
noncomputable def th_wn (h : Nat → Nat) (n : Nat) : Nat := th_cnt (fun q => th_B (th_way h n q)) 3375
theorem th_wn_0 {h : Nat → Nat} : th_wn h 0 = 0 := by
  have : th_wn h 0 = th_cnt (fun q => th_B (th_way h 0 q)) 0 := th_cnt_none (by omega) fun q _ _ => th_B_f fun w => by
    obtain ⟨_, p, hp, _⟩ := w
    omega
  rw [this]; rfl
theorem th_wn_s {h : Nat → Nat} {p : Nat} (hp : p < 9) (s : th_s9 h % 3 = 2) : th_wn h (p + 1) = th_wn h p + th_cnt (th_E h (th_pr p) (th_s9 h / 3)) 3375 := by
  have E : ∀ q, q < 3375 → (th_E h (th_pr p) (th_s9 h / 3) q = true ↔ th_srt q = true ∧ ∀ k, k < 9 → h k = th_pr p k + th_vec q k) := by
    intro q hq
    unfold th_E
    rw [th_B_iff]
    constructor
    · rintro ⟨⟨a, b⟩, c⟩
      refine ⟨a, fun k hk => (th_s9_pin b ?_ k hk).symm⟩
      rw [th_s9_add, th_pr_s9 hp, th_vec_s9 hq]
      omega
    · rintro ⟨a, b⟩
      have := th_way_s9 (n := p + 1) (by omega) hq ⟨a, p, by omega, b⟩
      exact ⟨⟨a, fun k hk => by rw [b k hk]; exact Nat.le_refl _⟩, by omega⟩
  refine th_cnt_or 3375 (fun q hq => ?_) (fun q hq w => ?_)
  · have e := E q hq
    rw [Bool.eq_iff_iff, Bool.or_eq_true, th_B_iff, th_B_iff, e]
    constructor
    · rintro ⟨a, p', hp', b⟩
      by_cases z : p' = p
      · subst z; exact Or.inr ⟨a, b⟩
      · exact Or.inl ⟨a, p', by omega, b⟩
    · rintro (⟨a, p', hp', b⟩ | ⟨a, b⟩)
      · exact ⟨a, p', by omega, b⟩
      · exact ⟨a, p, by omega, b⟩
  · obtain ⟨a, p', hp', b⟩ := th_B_iff.mp w
    cases z : th_E h (th_pr p) (th_s9 h / 3) q with
    | false => rfl
    | true =>
      have c := ((E q hq).mp z).2
      have c1 := c p hp
      have b1 := b p hp
      unfold th_pr at c1 b1
      rw [if_pos rfl] at c1
      rw [if_neg (by omega)] at b1
      omega
theorem th_wn_skip {h : Nat → Nat} {p : Nat} (hp : p < 9) (z : h p ≤ 1) : th_wn h (p + 1) = th_wn h p := by
  refine th_cnt_ext 3375 fun q _ => ?_
  rw [Bool.eq_iff_iff, th_B_iff, th_B_iff]
  constructor
  · rintro ⟨a, p', hp', b⟩
    by_cases y : p' = p
    · subst y
      have := b p' hp
      unfold th_pr at this
      rw [if_pos rfl] at this
      omega
    · exact ⟨a, p', by omega, b⟩
  · rintro ⟨a, p', hp', b⟩
    exact ⟨a, p', by omega, b⟩
theorem th_y_ways {post : Int32 → SY → Prop} {h : Nat → Nat} {sz lk lf lv : Int32} {hv ch gr rs : Nat → Int32} (Y : th_YH h sz hv) (s11 : th_s9 h ≤ 11)
    (H : ∀ (lk' lf' lv' : Int32) (ch' gr' : Nat → Int32), post (nI (th_wn h 9)) (sz, lk', lf', lv', hv, ch', gr', rs)) :
    wpY_ways post (sz, lk, lf, lv, hv, ch, gr, rs) := by
  have rem := pk_rem (a := th_s9 h) (d := 3) (by omega) (by omega) (by omega)
  have div := pk_div (a := th_s9 h) (d := 3) (by omega) (by omega) (by omega)
  rw [← Y.2.2.1] at rem div
  refine ⟨by decide, pk_eq (th_s9 h % 3) 2 (fun s => ?_) (fun s => ?_) rem rfl (by omega) (by omega)⟩
  · refine loop_0 (fun n i (s : Int32 × Int32 × Int32 × Int32 × (Nat → Int32) × (Nat → Int32)) => wY_ways_16 post n s.1 (nI i) sz s.2.1 s.2.2.1 s.2.2.2.1 hv s.2.2.2.2.1 s.2.2.2.2.2 rs)
      (fun i s => s.1 = nI (th_wn h i)) 9 (0, lk, lf, lv, ch, gr) (by rw [th_wn_0]; rfl) ?_ ?_
    · rintro n ⟨x1, lk1, lf1, lv1, ch1, gr1⟩ e
      dsimp only at e ⊢
      rw [e]
      exact br_t (nI_le (a := 9) (b := 9) (by omega) (by omega)) (H lk1 lf1 lv1 ch1 gr1)
    · rintro n p ⟨x1, lk1, lf1, lv1, ch1, gr1⟩ hp e ih
      dsimp only at e ih ⊢
      subst e
      have ek : (nI p).toNatClampNeg = p := nI_clamp (by omega)
      have h4 := Y.2.1 p hp
      refine br_f (nI_ge (b := 9) hp (by omega)) ⟨vp_in_nI hp (by omega), pk_le (h p) 1 (fun z => ?_) (fun z => ?_) (by rw [ek]; exact Y.1 p hp) rfl (by omega) (by omega)⟩
      · exact nm_r (nI_1 p) (ih (nI (th_wn h p), lk1, lf1, lv1, ch1, gr1) (by rw [th_wn_skip hp z]))
      · refine th_y_pair hp Y fun lk2 lf2 ch2 Y2 => ⟨by decide, ?_⟩
        have d3 : sz / 3 = nI (th_s9 h / 3) := div
        rw [d3]
        refine th_y_countWith (base := th_pr p) (by omega) (fun k hk => by have := Y.2.1 k hk; omega) Y2 (fun k hk => ?_) fun lk3 lf3 lv3 ch3 gr3 => ?_
        · unfold th_pr
          split
          · rename_i y; rw [y]; omega
          · omega
        · refine nm_r (nI_add _ _) (nm_r (nI_1 p) (ih (_, lk3, lf3, lv3, ch3, gr3) ?_))
          rw [th_wn_s hp s]; rfl
  · have e : th_wn h 9 = 0 := by
      have : th_wn h 9 = th_cnt (fun q => th_B (th_way h 9 q)) 0 := th_cnt_none (by omega) fun q _ hq => th_B_f fun w => by
        have := th_way_s9 (by omega) hq w
        omega
      rw [this]; rfl
    have := H lk lf lv ch gr
    rw [e] at this
    exact this
/-- completions -/
theorem th_y_completions {post : Int32 → SY → Prop} {h : Nat → Nat} {sz lk lf lv : Int32} {hv ch gr rs : Nat → Int32} (Y : th_YH h sz hv)
    (H : ∀ (lk' lf' lv' : Int32) (ch' gr' rs' : Nat → Int32), post (nI (th_ps (fun p => th_cnt (th_P h p) 3375) 9)) (sz, lk', lf', lv', hv, ch', gr', rs')) :
    wpY_completions post (sz, lk, lf, lv, hv, ch, gr, rs) := by
  refine loop_0 (fun n i (s : Int32 × Int32 × Int32 × Int32 × (Nat → Int32) × (Nat → Int32) × (Nat → Int32)) => wY_completions_4 post n s.1 (nI i) sz s.2.1 s.2.2.1 s.2.2.2.1 hv s.2.2.2.2.1 s.2.2.2.2.2.1 s.2.2.2.2.2.2)
    (fun i s => s.1 = nI (th_ps (fun p => th_cnt (th_P h p) 3375) i)) 9 (0, lk, lf, lv, ch, gr, rs) rfl ?_ ?_
  · rintro n ⟨x1, lk1, lf1, lv1, ch1, gr1, rs1⟩ e
    dsimp only at e ⊢
    rw [e]
    exact br_t (nI_le (a := 9) (b := 9) (by omega) (by omega)) (H lk1 lf1 lv1 ch1 gr1 rs1)
  · rintro n p ⟨x1, lk1, lf1, lv1, ch1, gr1, rs1⟩ hp e ih
    dsimp only at e ih ⊢
    subst e
    refine br_f (nI_ge (b := 9) hp (by omega)) (th_y_pair hp Y fun lk2 lf2 ch2 Y2 => ?_)
    refine th_y_completeWith hp Y2 fun lk3 lf3 lv3 ch3 gr3 rs3 => ?_
    exact nm_r (nI_add _ _) (nm_r (nI_1 p) (ih (_, lk3, lf3, lv3, ch3, gr3, rs3) rfl))
end
section
/-! the class: the questions -/
def th_RG (gt gz : Nat → Int32) : Prop := ∀ i, i < 680 → gz i = nI (th_sz (th_qi i)) ∧ ∀ k, k < 9 → gt (i * 9 + k) = nI (th_vec (th_qi i) k)
def th_RC (cn : Int32) (ct : Nat → Int32) (nc m : Nat) (l : Nat → Nat) : Prop :=
  nc = 45360 ∧ m ≤ 5040 ∧ cn = nI m ∧ (∀ i j, i < m → j < m → l i = l j → i = j) ∧ (∀ x, th_CH x ↔ ∃ i, i < m ∧ l i = x) ∧ ∀ i, i < m → ∀ k, k < 9 → ct (i * 9 + k) = nI (th_dg (l i) k)
def th_XH (h : Nat → Nat) (t : Nat → Int32) : Prop := (∀ k, k < 9 → t k = nI (h k)) ∧ ∀ k, k < 9 → h k ≤ 4
theorem th_sle {a b : Nat} (ha : a < 2 ^ 30) (hb : b < 2 ^ 30) (h : a ≤ b) : nI a - nI b ≤ 0 := by
  rw [Int32.le_iff_toInt_le, pk_sub_toInt ha hb, show (0 : Int32).toInt = 0 from by decide]
  omega
theorem th_x_missingTo {post : Int32 → Prop} {h : Nat → Nat} {hd gs cn : Int32} {t gt gz ct : Nat → Int32} {ls : Nat → Int64} {nc m : Nat} {l : Nat → Nat} {i : Nat} (X : th_XH h t) (C : th_RC cn ct nc m l) (hi : i < m)
    (H : post (nI (th_miss h (l i)))) : wpX_missingTo post (hd, gs, cn, t, gt, gz, ct, ls, nc) (nI i) := by
  obtain ⟨rfl, m5, _, _, _, cc⟩ := C
  refine nm_r (th_m9 i) ?_
  refine loop_0 (fun n k s => wX_missingTo_10 post (nI (i * 9)) hd gs cn t gt gz ct ls 45360 n s (nI k)) (fun k s => s = nI (th_ps (fun k => th_dg (l i) k - h k) k)) 9 0 rfl ?_ ?_
  · intro n s e
    rw [th_ps9] at e
    subst e
    exact br_t (nI_le (a := 9) (b := 9) (by omega) (by omega)) H
  · intro n k s hk e ih
    subst e
    have ek : (nI k).toNatClampNeg = k := nI_clamp (by omega)
    have ei : nI (i * 9) + nI k = nI (i * 9 + k) := nI_add _ _
    have ec : (nI (i * 9 + k)).toNatClampNeg = i * 9 + k := nI_clamp (by omega)
    have d4 := th_dg_le (l i) k
    have h4 := X.2 k hk
    refine br_f (nI_ge (b := 9) hk (by omega)) ?_
    rw [ei]
    refine ⟨vp_in_nI (by omega) (by omega), vp_in_nI hk (by omega), nm_r (e' := nI (th_dg (l i) k) - nI (h k)) (by rw [ec, ek, cc i hi k hk, X.1 k hk]) ?_⟩
    by_cases z : th_dg (l i) k ≤ h k
    · refine br_t (th_sle (by omega) (by omega) z) (nm_r (nI_1 k) (ih _ ?_))
      show nI (th_ps _ k) = nI (th_ps _ k + (th_dg (l i) k - h k))
      rw [Nat.sub_eq_zero_of_le z]; rfl
    · rw [pk_sub (by omega)]
      exact br_f (nI_nle (by omega) (by omega)) (nm_r (nI_add _ _) (nm_r (nI_1 k) (ih _ rfl)))
theorem th_x_least {post : Int32 → Prop} {h : Nat → Nat} {hd gs cn : Int32} {t gt gz ct : Nat → Int32} {ls : Nat → Int64} {nc m : Nat} {l : Nat → Nat} (X : th_XH h t) (C : th_RC cn ct nc m l)
    (H : post (nI (th_dist h))) : wpX_leastMissing post (hd, gs, cn, t, gt, gz, ct, ls, nc) := by
  have C' := C
  obtain ⟨_, m5, ecn, _, mem, _⟩ := C'
  refine loop_0 (fun n i s => wX_leastMissing_5 post hd gs cn t gt gz ct ls nc n s (nI i)) (fun i s => ∃ r, s = nI r ∧ r ≤ 11 ∧ (r = 11 ∨ ∃ j, j < i ∧ r = th_miss h (l j)) ∧ ∀ j, j < i → r ≤ th_miss h (l j)) m 11 ⟨11, rfl, by omega, Or.inl rfl, fun j hj => absurd hj (by omega)⟩ ?_ ?_
  · rintro n s ⟨r, rfl, r11, ex, al⟩
    have e : r = th_dist h := by
      obtain ⟨x, cx, mx⟩ := th_dist_ex h
      obtain ⟨j, hj, ej⟩ := (mem x).mp cx
      have a1 := al j hj
      rw [ej] at a1
      have d11 := th_dist_11 h
      rcases ex with z | ⟨j', hj', z⟩
      · omega
      · have := th_dist_le (h := h) ((mem (l j')).mpr ⟨j', hj', rfl⟩)
        omega
    rw [e]
    exact br_t (by rw [ecn]; exact nI_le (Nat.le_refl m) (by omega)) H
  · rintro n i s hi ⟨r, rfl, r11, ex, al⟩ ih
    have nx : ∀ r', r' ≤ 11 → r' ≤ r → r' ≤ th_miss h (l i) → (r' = r ∨ r' = th_miss h (l i)) → ∃ r2, nI r' = nI r2 ∧ r2 ≤ 11 ∧ (r2 = 11 ∨ ∃ j, j < i + 1 ∧ r2 = th_miss h (l j)) ∧ ∀ j, j < i + 1 → r2 ≤ th_miss h (l j) := by
      intro r' a b c d
      refine ⟨r', rfl, a, ?_, fun j hj => ?_⟩
      · rcases d with d | d
        · rcases ex with z | ⟨j, hj, z⟩
          · exact Or.inl (by omega)
          · exact Or.inr ⟨j, by omega, by omega⟩
        · exact Or.inr ⟨i, by omega, d⟩
      · by_cases z : j = i
        · rw [z]; exact c
        · have := al j (by omega); omega
    have b180 := th_over_b (c := th_dg (l i)) (h := h) fun k _ => by have := th_dg_le (l i) k; omega
    have b' : th_miss h (l i) ≤ 180 := b180
    refine br_f (by rw [ecn]; exact nI_ge hi (by omega)) (th_x_missingTo X C hi (pk_le r (th_miss h (l i)) (fun z => ?_) (fun z => ?_)))
    · exact nm_r (nI_1 i) (ih _ (nx r r11 (Nat.le_refl _) z (Or.inl rfl)))
    · exact nm_r (nI_1 i) (ih _ (nx _ (by omega) (by omega) (Nat.le_refl _) (Or.inr rfl)))
theorem th_x_kindsTo {post : Int32 → Prop} {h : Nat → Nat} {hd gs cn : Int32} {t gt gz ct : Nat → Int32} {ls : Nat → Int64} {nc m : Nat} {l : Nat → Nat} {i : Nat} (X : th_XH h t) (C : th_RC cn ct nc m l) (hi : i < m)
    (H : ∀ r : Int32, (∀ b, b < 32 → (bt r b = true ↔ b < 9 ∧ h b < th_dg (l i) b)) → post r) : wpX_kindsMissingTo post (hd, gs, cn, t, gt, gz, ct, ls, nc) (nI i) := by
  obtain ⟨rfl, m5, _, _, _, cc⟩ := C
  refine nm_r (th_m9 i) ?_
  refine loop_0 (fun n k s => wX_kindsMissingTo_10 post (nI (i * 9)) hd gs cn t gt gz ct ls 45360 n s (nI k)) (fun k s => ∀ b, b < 32 → (bt s b = true ↔ b < k ∧ h b < th_dg (l i) b)) 9 0 ?_ ?_ ?_
  · intro b _
    rw [b_0]
    exact ⟨fun z => (by cases z), fun z => absurd z.1 (by omega)⟩
  · intro n s e
    exact br_t (nI_le (a := 9) (b := 9) (by omega) (by omega)) (H s e)
  · intro n k s hk e ih
    have ek : (nI k).toNatClampNeg = k := nI_clamp (by omega)
    have ei : nI (i * 9) + nI k = nI (i * 9 + k) := nI_add _ _
    have ec : (nI (i * 9 + k)).toNatClampNeg = i * 9 + k := nI_clamp (by omega)
    have d4 := th_dg_le (l i) k
    have h4 := X.2 k hk
    refine br_f (nI_ge (b := 9) hk (by omega)) ?_
    rw [ei]
    refine ⟨vp_in_nI (by omega) (by omega), vp_in_nI hk (by omega), ?_⟩
    rw [ec, ek, cc i hi k hk, X.1 k hk]
    refine pk_le (th_dg (l i) k) (h k) (fun z => nm_r (nI_1 k) (ih _ fun b hb => ?_)) (fun z => nm_e (nm_r (nI_1 k) (ih _ fun b hb => ?_)))
    · rw [e b hb]
      constructor
      · rintro ⟨y, x⟩; exact ⟨by omega, x⟩
      · rintro ⟨y, x⟩
        refine ⟨?_, x⟩
        by_cases v : b = k
        · rw [v] at x; omega
        · omega
    · rw [b_or, th_bp (by omega) hb, Bool.or_eq_true, e b hb, decide_eq_true_eq]
      constructor
      · rintro (⟨y, x⟩ | y)
        · exact ⟨by omega, x⟩
        · rw [y]; exact ⟨by omega, z⟩
      · rintro ⟨y, x⟩
        by_cases v : b = k
        · exact Or.inr v
        · exact Or.inl ⟨by omega, x⟩
theorem th_x_kindsAt {post : Int32 → Prop} {h : Nat → Nat} {hd gs cn : Int32} {t gt gz ct : Nat → Int32} {ls : Nat → Int64} {nc m : Nat} {l : Nat → Nat} (X : th_XH h t) (C : th_RC cn ct nc m l)
    (H : post (th_M h)) : wpX_kindsMissingAt post (hd, gs, cn, t, gt, gz, ct, ls, nc) (nI (th_dist h)) := by
  have C' := C
  obtain ⟨_, m5, ecn, _, mem, _⟩ := C'
  have d11 := th_dist_11 h
  refine loop_0 (fun n i s => wX_kindsMissingAt_4 post (nI (th_dist h)) hd gs cn t gt gz ct ls nc n s (nI i)) (fun i s => ∀ b, b < 32 → (bt s b = true ↔ b < 9 ∧ ∃ j, j < i ∧ th_miss h (l j) = th_dist h ∧ h b < th_dg (l j) b)) m 0 ?_ ?_ ?_
  · intro b _
    rw [b_0]
    exact ⟨fun z => (by cases z), fun ⟨_, j, hj, _⟩ => absurd hj (by omega)⟩
  · intro n s e
    have W : th_WM h 9 s := by
      intro b hb
      rw [e b hb, th_want_iff]
      constructor
      · rintro ⟨y, j, hj, a, c⟩
        exact ⟨y, l j, (mem _).mpr ⟨j, hj, rfl⟩, a, c⟩
      · rintro ⟨y, x, cx, a, c⟩
        obtain ⟨j, hj, ej⟩ := (mem x).mp cx
        exact ⟨y, j, hj, by rw [ej]; exact a, by rw [ej]; exact c⟩
    rw [th_WM_u W]
    exact br_t (by rw [ecn]; exact nI_le (Nat.le_refl m) (by omega)) H
  · intro n i s hi e ih
    have b' : th_miss h (l i) ≤ 180 := th_over_b (c := th_dg (l i)) (h := h) fun k _ => by have := th_dg_le (l i) k; omega
    refine br_f (by rw [ecn]; exact nI_ge hi (by omega)) (th_x_missingTo X C hi (pk_eq (th_miss h (l i)) (th_dist h) (fun z => ?_) (fun z => ?_)))
    · refine th_x_kindsTo X C hi fun r er => nm_e (nm_r (nI_1 i) (ih _ fun b hb => ?_))
      rw [b_or, Bool.or_eq_true, e b hb, er b hb]
      constructor
      · rintro (⟨y, j, hj, a, c⟩ | ⟨y, c⟩)
        · exact ⟨y, j, by omega, a, c⟩
        · exact ⟨y, i, by omega, z, c⟩
      · rintro ⟨y, j, hj, a, c⟩
        by_cases v : j = i
        · subst v; exact Or.inr ⟨y, c⟩
        · exact Or.inl ⟨y, j, by omega, a, c⟩
    · refine nm_r (nI_1 i) (ih _ fun b hb => ?_)
      rw [e b hb]
      constructor
      · rintro ⟨y, j, hj, a, c⟩
        exact ⟨y, j, by omega, a, c⟩
      · rintro ⟨y, j, hj, a, c⟩
        by_cases v : j = i
        · subst v; exact absurd a z
        · exact ⟨y, j, by omega, a, c⟩
theorem th_x_hopeAt {post : Int32 → Prop} {h : Nat → Nat} {hd gs cn : Int32} {t gt gz ct : Nat → Int32} {ls : Nat → Int64} {nc m : Nat} {l : Nat → Nat} (X : th_XH h t) (C : th_RC cn ct nc m l)
    (H : post (th_hpv h)) : wpX_hopeAt post (hd, gs, cn, t, gt, gz, ct, ls, nc) (nI (th_dist h)) := by
  unfold wpX_hopeAt
  refine th_x_kindsAt X C ?_
  refine loop_0 (fun n i s => wX_hopeAt_11 post (th_M h) hd gs cn t gt gz ct ls nc n s (nI i)) (fun i s => s = th_hs (th_M h) t i) 9 0 rfl ?_ ?_
  · intro n s e
    unfold th_hpv at H
    rw [← th_hs_ext 9 X.1, ← e] at H
    exact br_t (nI_le (a := 9) (b := 9) (by omega) (by omega)) H
  · intro n k s hk e ih
    have ek : (nI k).toNatClampNeg = k := nI_clamp (by omega)
    refine br_f (nI_ge (b := 9) hk (by omega)) (br_c (fun z => ?_) (fun z => ?_))
    · refine nm_r (nI_1 k) (ih _ ?_)
      unfold th_hs
      rw [(th_band (by omega)).mp z, e]
      rfl
    · refine ⟨vp_in_nI hk (by omega), nm_r (e' := s + (4 - t k)) (by rw [ek]) (nm_r (nI_1 k) (ih _ ?_))⟩
      have zt : bt (th_M h) k = true := by
        cases y : bt (th_M h) k with
        | true => rfl
        | false => exact absurd ((th_band (by omega)).mpr y) z
      unfold th_hs
      rw [if_pos zt, e]
theorem th_k4 {k : Nat} (hk : k < 9) : ¬ nI k = -4 := by
  have : ∀ k, k < 9 → ¬ nI k = -4 := by decide +kernel
  exact this k hk
theorem th_x_best {post : Int32 → SX → Prop} {h : Nat → Nat} {hd gs cn : Int32} {t gt gz ct : Nat → Int32} {ls : Nat → Int64} {nc m : Nat} {l : Nat → Nat} (X : th_XH h t) (C : th_RC cn ct nc m l)
    (H : post (th_bv h) (hd, gs, cn, t, gt, gz, ct, ls, nc)) : wpX_best post (hd, gs, cn, t, gt, gz, ct, ls, nc) := by
  refine loop_0 (fun n i (s : Int32 × Int32 × Int32) => wX_best_10 post hd gs cn nc n s.1 s.2.1 s.2.2 (nI i) t gt gz ct ls)
    (fun i s => (th_bs h i = none ∧ s.1 = -4) ∨ (th_bs h i = some (s.1, s.2.1, s.2.2) ∧ ¬ s.1 = -4)) 9 (-4, 0, 0) (Or.inl ⟨rfl, rfl⟩) ?_ ?_
  · rintro n ⟨x1, x2, x3⟩ I
    dsimp only at I ⊢
    have e : x1 = th_bv h := by
      unfold th_bv
      rcases I with ⟨a, b⟩ | ⟨a, b⟩
      · rw [a, b]
      · rw [a]
    rw [e]
    exact br_t (nI_le (a := 9) (b := 9) (by omega) (by omega)) H
  · rintro n k ⟨x1, x2, x3⟩ hk I ih
    dsimp only at I ih ⊢
    have ek : (nI k).toNatClampNeg = k := nI_clamp (by omega)
    have in9 : vp_in (nI k) 9 := vp_in_nI hk (by omega)
    have h4 := X.2 k hk
    refine br_f (nI_ge (b := 9) hk (by omega)) ⟨in9, pk_le (h k) 0 (fun z => ?_) (fun z => ?_) (by rw [ek]; exact X.1 k hk) rfl (by omega) (by omega)⟩
    · refine nm_r (nI_1 k) (ih (x1, x2, x3) ?_)
      dsimp only
      rw [th_bs_0 (by omega)]
      exact I
    · have X' : th_XH (th_dec h k) (upd t k (nI (h k - 1))) := ⟨th_dec_upd X.1, fun j hj => by have := X.2 j hj; unfold th_dec; omega⟩
      refine ⟨in9, in9, nm_r (e' := upd t k (nI (h k - 1))) (by rw [ek, X.1 k hk, th_s1 z]) ?_⟩
      refine th_x_least X' C (th_x_hopeAt X' C ⟨in9, in9, nm_r (e' := t) ?_ ?_⟩)
      · rw [ek, pk_us, nI_1]
        exact th_upd2 (by rw [X.1 k hk]; congr 1; omega)
      have new : th_bs h (k + 1) = some (nI k, nI (th_dist (th_dec h k)), th_hpv (th_dec h k)) →
          wX_best_87 post (wX_best_10 post hd gs cn nc n) (nI k) (nI (th_dist (th_dec h k))) (th_hpv (th_dec h k)) hd gs cn t gt gz ct ls nc := fun a =>
        nm_r (nI_1 k) (ih (nI k, nI (th_dist (th_dec h k)), th_hpv (th_dec h k)) (Or.inr ⟨a, th_k4 hk⟩))
      rcases I with ⟨a, b⟩ | ⟨a, b⟩
      · exact br_t b (new (th_bs_n (by omega) a))
      · refine br_f b (br_c (fun u => new (th_bs_t (by omega) a (Or.inl u))) (fun u => br_c (fun v => br_c (fun w => ?_) (fun w => ?_)) (fun v => ?_)))
        · exact nm_r (nI_1 k) (ih (x1, x2, x3) (Or.inr ⟨th_bs_f (by omega) a (fun y => y.elim u fun y => y.2 w), b⟩))
        · exact new (th_bs_t (by omega) a (Or.inr ⟨v, w⟩))
        · exact nm_r (nI_1 k) (ih (x1, x2, x3) (Or.inr ⟨th_bs_f (by omega) a (fun y => y.elim u fun y => v y.1), b⟩))
end
section
/-! the class: groups, ways, completions -/
theorem th_vec9 (q k : Nat) : th_vec q k ≤ 9 := by
  have g : ∀ g, th_G g k ≤ 3 := fun g => by unfold th_G; split <;> split <;> (try split) <;> omega
  have := g (th_a q)
  have := g (th_b q)
  have := g (th_c q)
  unfold th_vec
  omega
theorem th_x_handHolds {post : Int32 → Prop} {h : Nat → Nat} {hd gs cn : Int32} {t gt gz ct : Nat → Int32} {ls : Nat → Int64} {nc i : Nat} (X : th_XH h t) (G : th_RG gt gz) (hi : i < 680)
    (H1 : (∀ k, k < 9 → th_vec (th_qi i) k ≤ h k) → post 1) (H0 : ¬ (∀ k, k < 9 → th_vec (th_qi i) k ≤ h k) → post 0) : wpX_handHolds post (hd, gs, cn, t, gt, gz, ct, ls, nc) (nI i) := by
  have cc := (G i hi).2
  refine nm_r (th_m9 i) ?_
  refine loop_0 (fun n k (_ : Unit) => wX_handHolds_7 post (nI (i * 9)) hd gs cn t gt gz ct ls nc n (nI k)) (fun k _ => ∀ j, j < k → th_vec (th_qi i) j ≤ h j) 9 () (fun j hj => absurd hj (by omega)) ?_ ?_
  · intro n _ e
    exact br_t (nI_le (a := 9) (b := 9) (by omega) (by omega)) (H1 e)
  · intro n k _ hk e ih
    have ek : (nI k).toNatClampNeg = k := nI_clamp (by omega)
    have ei : nI (i * 9) + nI k = nI (i * 9 + k) := nI_add _ _
    have ec : (nI (i * 9 + k)).toNatClampNeg = i * 9 + k := nI_clamp (by omega)
    have h4 := X.2 k hk
    have v9 := th_vec9 (th_qi i) k
    refine br_f (nI_ge (b := 9) hk (by omega)) ?_
    rw [ei]
    refine ⟨vp_in_nI (by omega) (by omega), vp_in_nI hk (by omega), ?_⟩
    rw [ec, ek, cc k hk, X.1 k hk]
    refine pk_le (th_vec (th_qi i) k) (h k) (fun z => nm_r (nI_1 k) (ih () fun j hj => ?_)) (fun z => H0 fun y => ?_)
    · by_cases v : j = k
      · rw [v]; exact z
      · exact e j (by omega)
    · have := y k hk; omega
theorem th_F0 {h : Nat → Nat} {q : Nat} : th_F h (fun _ => 0) q ↔ th_srt q = true ∧ ∀ k, k < 9 → th_vec q k ≤ h k := by
  unfold th_F
  simp only [Nat.zero_add]
theorem th_x_groups {post : Int32 → Prop} {h : Nat → Nat} {hd gs cn : Int32} {t gt gz ct : Nat → Int32} {ls : Nat → Int64} {nc : Nat} (X : th_XH h t) (G : th_RG gt gz)
    (H : ∀ r, th_AG h (fun _ => 0) r 3375 → post (nI r)) : wpX_groups post (hd, gs, cn, t, gt, gz, ct, ls, nc) := by
  refine loop_0 (fun n i s => wX_groups_4 post hd gs cn t gt gz ct ls nc n s (nI i)) (fun i s => ∃ r, s = nI r ∧ r ≤ 3 ∧ (r = 0 ∨ ∃ q, q < 3375 ∧ th_F h (fun _ => 0) q ∧ r = th_sz q) ∧ ∀ j, j < i → th_F h (fun _ => 0) (th_qi j) → th_sz (th_qi j) ≤ r) 680 0 ⟨0, rfl, by omega, Or.inl rfl, fun j hj => absurd hj (by omega)⟩ ?_ ?_
  · rintro n s ⟨r, rfl, r3, ex, al⟩
    refine br_t (nI_le (a := 680) (b := 680) (by omega) (by omega)) (H r ⟨r3, ex, fun q hq f => ?_⟩)
    have := al (th_nb q) (th_nb_lt hq f.1)
    rw [th_qi_nb hq f.1] at this
    exact this f
  · rintro n i s hi ⟨r, rfl, r3, ex, al⟩ ih
    have ei : (nI i).toNatClampNeg = i := nI_clamp (by omega)
    have in6 : vp_in (nI i) 680 := vp_in_nI hi (by omega)
    have z3 := th_sz3 (th_qi i)
    have nx : (th_F h (fun _ => 0) (th_qi i) → th_sz (th_qi i) ≤ r) → ∀ j, j < i + 1 → th_F h (fun _ => 0) (th_qi j) → th_sz (th_qi j) ≤ r := by
      intro a j hj f
      by_cases v : j = i
      · subst v; exact a f
      · exact al j (by omega) f
    refine br_f (nI_ge (b := 680) hi (by omega)) ⟨in6, ?_⟩
    rw [ei, (G i hi).1]
    refine pk_le (th_sz (th_qi i)) r (fun z => nm_r (nI_1 i) (ih _ ⟨r, rfl, r3, ex, nx fun _ => z⟩)) (fun z => ?_)
    refine th_x_handHolds X G hi (fun y => ?_) (fun y => ?_)
    · refine br_f (by decide) ⟨in6, nm_e (nm_r (nI_1 i) (ih _ ⟨th_sz (th_qi i), rfl, z3, Or.inr ⟨th_qi i, (th_qi_s hi).1, th_F0.mpr ⟨(th_qi_s hi).2.1, y⟩, rfl⟩, fun j hj f => ?_⟩))⟩
      by_cases v : j = i
      · subst v; exact Nat.le_refl _
      · have := al j (by omega) f; omega
    · exact br_t rfl (nm_r (nI_1 i) (ih _ ⟨r, rfl, r3, ex, nx fun f => absurd (th_F0.mp f).2 y⟩))
theorem th_AG_u {h : Nat → Nat} {a b : Nat} (A : th_AG h (fun _ => 0) a 3375) (B : th_AG h (fun _ => 0) b 3375) : a = b := by
  have one : ∀ {a b : Nat}, th_AG h (fun _ => 0) a 3375 → th_AG h (fun _ => 0) b 3375 → a ≤ b := by
    intro a b A B
    rcases A.2.1 with z | ⟨q, hq, f, e⟩
    · omega
    · rw [e]; exact B.2.2 q hq f
  exact Nat.le_antisymm (one A B) (one B A)
theorem th_sne {a b c : Nat} (ha : a < 2 ^ 30) (hb : b < 2 ^ 30) (hc : c < 2 ^ 30) (h : nI a - nI b = nI c) : a = b + c := by
  have e := congrArg Int32.toInt h
  rw [pk_sub_toInt ha hb, nI_toInt (by omega)] at e
  omega
theorem th_x_leaves {post : Int32 → Prop} {h : Nat → Nat} {hd gs cn : Int32} {t gt gz ct : Nat → Int32} {ls : Nat → Int64} {nc i : Nat} (X : th_XH h t) (G : th_RG gt gz) (hi : i < 680)
    (H1 : th_way h 9 (th_qi i) → post 1) (H0 : ¬ th_way h 9 (th_qi i) → post 0) : wpX_leavesOnePair post (hd, gs, cn, t, gt, gz, ct, ls, nc) (nI i) := by
  have cc := (G i hi).2
  have sr := (th_qi_s hi).2.1
  obtain ⟨v, ev⟩ : ∃ v, v = th_vec (th_qi i) := ⟨_, rfl⟩
  have W : th_way h 9 (th_qi i) ↔ ∃ p, p < 9 ∧ ∀ k, k < 9 → h k = th_pr p k + v k := by
    rw [ev]; exact ⟨fun w => w.2, fun w => ⟨sr, w⟩⟩
  have v9 : ∀ k, v k ≤ 9 := fun k => by rw [ev]; exact th_vec9 _ k
  rw [← ev] at cc
  refine nm_r (th_m9 i) ?_
  refine loop_0 (fun n k s => wX_leavesOnePair_10 post (nI (i * 9)) hd gs cn t gt gz ct ls nc n s (nI k))
    (fun k s => (s = nI 0 ∧ ∀ j, j < k → h j = v j) ∨ (s = nI 1 ∧ ∃ p, p < k ∧ ∀ j, j < k → h j = th_pr p j + v j) ∨ (∃ c p p', s = nI c ∧ 2 ≤ c ∧ c ≤ k ∧ p < p' ∧ p' < k ∧ h p = v p + 2 ∧ h p' = v p' + 2)) 9 0 (Or.inl ⟨rfl, fun j hj => absurd hj (by omega)⟩) ?_ ?_
  · intro n s I
    refine br_t (nI_le (a := 9) (b := 9) (by omega) (by omega)) ?_
    rcases I with ⟨e, a⟩ | ⟨e, p, hp, a⟩ | ⟨c, p, p', e, c2, c9, h1, h2, h3, h4⟩
    · subst e
      refine br_f (by decide) (H0 fun w => ?_)
      obtain ⟨p, hp, b⟩ := W.mp w
      have x1 := a p hp
      have x2 := b p hp
      unfold th_pr at x2
      rw [if_pos rfl] at x2
      omega
    · subst e
      exact br_t rfl (H1 (W.mpr ⟨p, hp, a⟩))
    · subst e
      refine br_f (fun z => ?_) (H0 fun w => ?_)
      · have := (nI_eq (a := c) (b := 1) (by omega) (by omega)).mp z
        omega
      · obtain ⟨p0, hp0, b⟩ := W.mp w
        have x1 := b p (by omega)
        have x2 := b p' (by omega)
        unfold th_pr at x1 x2
        split at x1 <;> split at x2 <;> omega
  · intro n k s hk I ih
    have ek : (nI k).toNatClampNeg = k := nI_clamp (by omega)
    have ei : nI (i * 9) + nI k = nI (i * 9 + k) := nI_add _ _
    have ec : (nI (i * 9 + k)).toNatClampNeg = i * 9 + k := nI_clamp (by omega)
    have h4 := X.2 k hk
    have vk := v9 k
    refine br_f (nI_ge (b := 9) hk (by omega)) ?_
    rw [ei]
    refine ⟨vp_in_nI hk (by omega), vp_in_nI (by omega) (by omega), nm_r (e' := nI (h k) - nI (v k)) (by rw [ec, ek, cc k hk, X.1 k hk]) ?_⟩
    have pn : ∀ {p : Nat}, p < k → th_pr p k = 0 := fun hp => by unfold th_pr; rw [if_neg (by omega)]
    refine br_c (fun z => ?_) (fun z => br_c (fun y => ?_) (fun y => ?_))
    · have e2 := th_sne (c := 2) (by omega) (by omega) (by omega) z
      rcases I with ⟨e, a⟩ | ⟨e, p, hp, a⟩ | ⟨c, p, p', e, c2, c9, h1, h2, h3, h5⟩
      · subst e
        refine nm_r (nI_1 0) (nm_r (nI_1 k) (ih _ (Or.inr (Or.inl ⟨rfl, k, by omega, fun j hj => ?_⟩))))
        unfold th_pr
        by_cases u : j = k
        · rw [if_pos u, u]; omega
        · rw [if_neg u]; have := a j (by omega); omega
      · subst e
        refine nm_r (nI_1 1) (nm_r (nI_1 k) (ih _ (Or.inr (Or.inr ⟨2, p, k, rfl, by omega, by omega, hp, by omega, ?_, by omega⟩))))
        have := a p hp
        unfold th_pr at this
        rw [if_pos rfl] at this
        omega
      · subst e
        exact nm_r (nI_1 c) (nm_r (nI_1 k) (ih _ (Or.inr (Or.inr ⟨c + 1, p, p', rfl, by omega, by omega, h1, by omega, h3, h5⟩))))
    · have e0 := th_sne (c := 0) (by omega) (by omega) (by omega) y
      refine nm_r (nI_1 k) (ih _ ?_)
      rcases I with ⟨e, a⟩ | ⟨e, p, hp, a⟩ | ⟨c, p, p', e, c2, c9, h1, h2, h3, h5⟩
      · refine Or.inl ⟨e, fun j hj => ?_⟩
        by_cases u : j = k
        · rw [u]; omega
        · exact a j (by omega)
      · refine Or.inr (Or.inl ⟨e, p, by omega, fun j hj => ?_⟩)
        by_cases u : j = k
        · rw [u, pn hp]; omega
        · exact a j (by omega)
      · exact Or.inr (Or.inr ⟨c, p, p', e, c2, by omega, h1, by omega, h3, h5⟩)
    · refine H0 fun w => ?_
      obtain ⟨p0, hp0, b⟩ := W.mp w
      have x1 := b k hk
      unfold th_pr at x1
      split at x1
      · refine z ?_
        rw [x1, pk_sub (by omega), show 2 + v k - v k = 2 by omega]; rfl
      · refine y ?_
        rw [x1, pk_sub (by omega), show 0 + v k - v k = 0 by omega]; rfl
theorem th_x_ways {post : Int32 → Prop} {h : Nat → Nat} {hd gs cn : Int32} {t gt gz ct : Nat → Int32} {ls : Nat → Int64} {nc : Nat} (X : th_XH h t) (G : th_RG gt gz)
    (H : post (nI (th_wn h 9))) : wpX_ways post (hd, gs, cn, t, gt, gz, ct, ls, nc) := by
  refine loop_0 (fun n i s => wX_ways_4 post hd gs cn t gt gz ct ls nc n s (nI i)) (fun i s => s = nI (th_cnt (fun j => th_B (th_way h 9 (th_qi j))) i)) 680 0 rfl ?_ ?_
  · rintro n s rfl
    have e : th_cnt (fun j => th_B (th_way h 9 (th_qi j))) 680 = th_wn h 9 := by
      have c := th_cnt_nb (fun j => th_B (th_way h 9 (th_qi j))) 3375
      rw [th_nb_all] at c
      rw [c]
      refine th_cnt_ext 3375 fun q hq => ?_
      rw [Bool.eq_iff_iff, Bool.and_eq_true, th_B_iff, th_B_iff]
      constructor
      · rintro ⟨a, b⟩
        rw [th_qi_nb hq a] at b
        exact b
      · intro b
        rw [th_qi_nb hq b.1]
        exact ⟨b.1, b⟩
    rw [e]
    exact br_t (nI_le (a := 680) (b := 680) (by omega) (by omega)) H
  · rintro n i s hi rfl ih
    have st : th_cnt (fun j => th_B (th_way h 9 (th_qi j))) (i + 1) = th_cnt (fun j => th_B (th_way h 9 (th_qi j))) i + (if th_B (th_way h 9 (th_qi i)) then 1 else 0) := rfl
    refine br_f (nI_ge (b := 680) hi (by omega)) (th_x_leaves X G hi (fun w => ?_) (fun w => ?_))
    · exact br_f (by decide) (nm_r (nI_1 _) (nm_r (nI_1 i) (ih _ (by rw [st, th_B_t w]; rfl))))
    · exact br_t rfl (nm_r (nI_1 i) (ih _ (by rw [st, th_B_f w]; rfl)))
theorem th_x_completions {post : Int32 → Prop} {h : Nat → Nat} {hd gs cn : Int32} {t gt gz ct : Nat → Int32} {ls : Nat → Int64} {nc m : Nat} {l : Nat → Nat} (X : th_XH h t) (C : th_RC cn ct nc m l) (s11 : th_s9 h ≤ 11) (ehd : hd = nI (th_s9 h))
    (H : post (nI (th_ps (fun p => th_cnt (th_P h p) 3375) 9))) : wpX_completions post (hd, gs, cn, t, gt, gz, ct, ls, nc) := by
  have C' := C
  obtain ⟨_, m5, ecn, inj, mem, _⟩ := C'
  refine loop_0 (fun n i s => wX_completions_4 post hd gs cn t gt gz ct ls nc n s (nI i)) (fun i s => s = nI (th_cnt (fun j => (fun x => th_B (∀ k, k < 9 → h k ≤ th_dg x k)) (l j)) i)) m 0 rfl ?_ ?_
  · rintro n s rfl
    have c : th_cnt (fun j => (fun x => th_B (∀ k, k < 9 → h k ≤ th_dg x k)) (l j)) m = th_ps (fun p => th_cnt (th_P h p) 3375) 9 := th_compl inj mem (fun x => th_B (∀ k, k < 9 → h k ≤ th_dg x k))
    rw [c]
    exact br_t (by rw [ecn]; exact nI_le (Nat.le_refl m) (by omega)) H
  · rintro n i s hi rfl ih
    have b' : th_miss h (l i) ≤ 180 := th_over_b (c := th_dg (l i)) (h := h) fun k _ => by have := th_dg_le (l i) k; omega
    have st : th_cnt (fun j => (fun x => th_B (∀ k, k < 9 → h k ≤ th_dg x k)) (l j)) (i + 1) = th_cnt (fun j => (fun x => th_B (∀ k, k < 9 → h k ≤ th_dg x k)) (l j)) i + (if th_B (∀ k, k < 9 → h k ≤ th_dg (l i) k) then 1 else 0) := rfl
    have bal := th_over_bal (th_dg (l i)) h
    have s9 := th_CH_s9 ((mem (l i)).mpr ⟨i, hi, rfl⟩)
    have z0 := th_over_0 (h := h) (c := th_dg (l i))
    have ms : th_miss h (l i) = th_over (th_dg (l i)) h := rfl
    have e11 : (11 : Int32) - hd = nI (11 - th_s9 h) := by rw [ehd]; exact pk_sub (a := 11) s11
    refine br_f (by rw [ecn]; exact nI_ge hi (by omega)) (th_x_missingTo X C hi (pk_eq (th_miss h (l i)) (11 - th_s9 h) (fun z => ?_) (fun z => ?_) rfl e11 (by omega) (by omega)))
    · exact nm_r (nI_1 _) (nm_r (nI_1 i) (ih _ (by rw [st, th_B_t (z0.mp (by omega))]; rfl)))
    · exact nm_r (nI_1 i) (ih _ (by rw [st, th_B_f (fun y => z (by have := z0.mpr y; omega))]; rfl))
end
section
/-! the class's constructor: the list of group sets -/
def th_LI (q : Nat) (v : Nat → Nat) (s : Nat) (gt gz : Nat → Int32) : Prop :=
  (∀ q', q' < q → th_srt q' = true → gz (th_nb q') = nI (th_sz q') ∧ ∀ k, k < 9 → gt (th_nb q' * 9 + k) = nI (th_vec q' k)) ∧
  (∀ k, k < 9 → gt (th_nb q * 9 + k) = nI (v k)) ∧ gz (th_nb q) = nI s ∧ (∀ j, (th_nb q + 1) * 9 ≤ j → gt j = 0) ∧ (∀ j, th_nb q < j → gz j = 0)
theorem th_LI_inc {q : Nat} {v : Nat → Nat} {s : Nat} {gt gz : Nat → Int32} {j a : Nat} (hj : j < 9) (L : th_LI q v s gt gz) :
    th_LI q (fun k => v k + if k = j then a else 0) s (upd gt (th_nb q * 9 + j) (gt (th_nb q * 9 + j) + nI a)) gz := by
  obtain ⟨L1, L2, L3, L4, L5⟩ := L
  refine ⟨fun q' h1 h2 => ⟨(L1 q' h1 h2).1, fun k hk => ?_⟩, fun k hk => ?_, L3, fun i hi => ?_, L5⟩
  · have := th_nb_mono h2 h1
    rw [pk_un (by omega)]
    exact (L1 q' h1 h2).2 k hk
  · dsimp only
    by_cases z : k = j
    · subst z; rw [pk_us, L2 k hk, nI_add, if_pos rfl]
    · rw [pk_un (by omega), if_neg z]; exact L2 k hk
  · rw [pk_un (by omega)]; exact L4 i hi
theorem th_LI_sz {q : Nat} {v : Nat → Nat} {s : Nat} {gt gz : Nat → Int32} (L : th_LI q v s gt gz) : th_LI q v (s + 1) gt (upd gz (th_nb q) (nI (s + 1))) := by
  obtain ⟨L1, L2, L3, L4, L5⟩ := L
  refine ⟨fun q' h1 h2 => ⟨?_, (L1 q' h1 h2).2⟩, L2, pk_us, L4, fun i hi => ?_⟩
  · have := th_nb_mono h2 h1
    rw [pk_un (by omega)]
    exact (L1 q' h1 h2).1
  · rw [pk_un (by omega)]; exact L5 i hi
theorem th_LI_ext {q : Nat} {v v' : Nat → Nat} {s s' : Nat} {gt gz : Nat → Int32} (e : ∀ k, k < 9 → v k = v' k) (es : s = s') (L : th_LI q v s gt gz) : th_LI q v' s' gt gz := by
  subst es
  exact ⟨L.1, fun k hk => by rw [← e k hk]; exact L.2.1 k hk, L.2.2⟩
theorem th_LI_next {q : Nat} {gt gz : Nat → Int32} (sr : th_srt q = true) (L : th_LI q (th_vec q) (th_sz q) gt gz) : th_LI (q + 1) (fun _ => 0) 0 gt gz := by
  obtain ⟨L1, L2, L3, L4, L5⟩ := L
  have n := th_nb_s sr
  refine ⟨fun q' h1 h2 => ?_, fun k hk => L4 _ (by rw [n]; omega), L5 _ (by omega), fun j hj => L4 j (by rw [n] at hj; omega), fun j hj => L5 j (by omega)⟩
  by_cases z : q' = q
  · subst z; exact ⟨L3, L2⟩
  · exact L1 q' (by omega) h2
theorem th_LI_gap {q q2 : Nat} {gt gz : Nat → Int32} (hq : q ≤ q2) (g : ∀ x, q ≤ x → x < q2 → th_srt x = false) (L : th_LI q (fun _ => 0) 0 gt gz) : th_LI q2 (fun _ => 0) 0 gt gz := by
  obtain ⟨L1, L2, L3, L4, L5⟩ := L
  have n := th_nb_gap hq g
  refine ⟨fun q' h1 h2 => ?_, by rw [n]; exact L2, by rw [n]; exact L3, by rw [n]; exact L4, by rw [n]; exact L5⟩
  by_cases z : q' < q
  · exact L1 q' z h2
  · rw [g q' (by omega) h1] at h2; cases h2
theorem th_G_run3 : ∀ g, g < 14 → 9 ≤ g → ∀ k, k < 9 → th_G g k = (if k = g - 9 then 1 else 0) + (if k = g - 9 + 1 then 1 else 0) + (if k = g - 9 + 2 then 1 else 0) := by decide +kernel
theorem th_x_lay {post : SX → Prop} {hd cn : Int32} {t gt gz ct : Nat → Int32} {ls : Nat → Int64} {nc q s g : Nat} {v : Nat → Nat} (hg : g ≤ 14) (hn : th_nb q < 680) (L : th_LI q v s gt gz)
    (H : ∀ gt' gz' : Nat → Int32, th_LI q (fun k => v k + th_G g k) (s + th_one g) gt' gz' → post (hd, nI (th_nb q), cn, t, gt', gz', ct, ls, nc)) :
    wpX_layGroup post (hd, nI (th_nb q), cn, t, gt, gz, ct, ls, nc) (nI g) := by
  refine pk_eq g 14 (fun z => ?_) (fun z => ?_)
  · subst z
    exact H gt gz (th_LI_ext (fun k _ => by simp [th_G]) (by simp [th_one]) L)
  · have en : (nI (th_nb q)).toNatClampNeg = th_nb q := nI_clamp (by omega)
    have in6 : vp_in (nI (th_nb q)) 680 := vp_in_nI hn (by omega)
    have o1 : th_one g = 1 := by unfold th_one; rw [if_pos (by omega)]
    have L' := th_LI_sz L
    refine ⟨in6, in6, nm_r (e' := upd gz (th_nb q) (nI (s + 1))) (by rw [en, L.2.2.1, nI_1]) (nm_r (th_m9 _) ?_)⟩
    refine pk_le 9 g (fun h9 => ?_) (fun h9 => ?_)
    · have ex : nI (th_nb q * 9) + nI g - 9 = nI (th_nb q * 9 + (g - 9)) := by
        rw [nI_add, show (9 : Int32) = nI 9 from rfl, pk_sub (by omega)]
        congr 1; omega
      have e0 : (nI (th_nb q * 9 + (g - 9))).toNatClampNeg = th_nb q * 9 + (g - 9) := nI_clamp (by omega)
      have e1 : (nI (th_nb q * 9 + (g - 9) + 1)).toNatClampNeg = th_nb q * 9 + (g - 9 + 1) := nI_clamp (by omega)
      have e2 : (nI (th_nb q * 9 + (g - 9) + 2)).toNatClampNeg = th_nb q * 9 + (g - 9 + 2) := nI_clamp (by omega)
      have A0 := th_LI_inc (j := g - 9) (a := 1) (by omega) L'
      have A1 := th_LI_inc (j := g - 9 + 1) (a := 1) (by omega) A0
      have A2 := th_LI_inc (j := g - 9 + 2) (a := 1) (by omega) A1
      refine nm_r ex ?_
      rw [nI_1, th_2]
      have i0 : vp_in (nI (th_nb q * 9 + (g - 9))) 6120 := vp_in_nI (by omega) (by omega)
      have i1 : vp_in (nI (th_nb q * 9 + (g - 9) + 1)) 6120 := vp_in_nI (by omega) (by omega)
      have i2 : vp_in (nI (th_nb q * 9 + (g - 9) + 2)) 6120 := vp_in_nI (by omega) (by omega)
      refine ⟨i0, i0, nm_r (e' := upd gt (th_nb q * 9 + (g - 9)) (gt (th_nb q * 9 + (g - 9)) + nI 1)) (by rw [e0]; rfl) ⟨i1, i1, nm_e ⟨i2, i2, nm_e (H _ _ ?_)⟩⟩⟩
      rw [e1, e2]
      refine th_LI_ext (fun k hk => ?_) (by omega) A2
      rw [th_G_run3 g (by omega) h9 k hk]
      omega
    · have ex : nI (th_nb q * 9) + nI g = nI (th_nb q * 9 + g) := nI_add _ _
      have e0 : (nI (th_nb q * 9 + g)).toNatClampNeg = th_nb q * 9 + g := nI_clamp (by omega)
      have A0 := th_LI_inc (j := g) (a := 3) (by omega) L'
      have i0 : vp_in (nI (th_nb q * 9 + g)) 6120 := vp_in_nI (by omega) (by omega)
      rw [ex]
      refine ⟨i0, i0, nm_e (H _ _ ?_)⟩
      rw [e0]
      refine th_LI_ext (fun k hk => ?_) (by omega) A0
      rw [th_G_9 g h9 k hk]
theorem th_x_set {post : SX → Prop} {hd cn : Int32} {t gt gz ct : Nat → Int32} {ls : Nat → Int64} {nc a b c : Nat} (hab : a ≤ b) (hbc : b ≤ c) (hc : c ≤ 14) (L : th_LI (a * 225 + b * 15 + c) (fun _ => 0) 0 gt gz)
    (H : ∀ gt' gz' : Nat → Int32, th_LI (a * 225 + b * 15 + c + 1) (fun _ => 0) 0 gt' gz' → post (hd, nI (th_nb (a * 225 + b * 15 + c + 1)), cn, t, gt', gz', ct, ls, nc)) :
    wpX_listGroupSet post (hd, nI (th_nb (a * 225 + b * 15 + c)), cn, t, gt, gz, ct, ls, nc) (nI a) (nI b) (nI c) := by
  have sr : th_srt (a * 225 + b * 15 + c) = true := by rw [th_srt_iff]; omega
  have hn := th_nb_lt (q := a * 225 + b * 15 + c) (by omega) sr
  have da : th_a (a * 225 + b * 15 + c) = a := by unfold th_a; omega
  have db : th_b (a * 225 + b * 15 + c) = b := by unfold th_b; omega
  have dc : th_c (a * 225 + b * 15 + c) = c := by unfold th_c; omega
  refine br_t (nI_lt (b := 680) hn (by omega)) ?_
  refine th_x_lay (by omega) hn L fun gt1 gz1 L1 => ?_
  refine th_x_lay (by omega) hn L1 fun gt2 gz2 L2 => ?_
  refine th_x_lay (by omega) hn L2 fun gt3 gz3 L3 => ?_
  have n := th_nb_s sr
  refine nm_r (e' := nI (th_nb (a * 225 + b * 15 + c + 1))) (by rw [n, nI_1]) (H gt3 gz3 (th_LI_next sr (th_LI_ext (fun k hk => ?_) ?_ L3)))
  · unfold th_vec
    rw [da, db, dc]
    omega
  · unfold th_sz
    rw [da, db, dc]
    omega
theorem th_x_sets3 {post : SX → Prop} {J2 J10 : Int32 → Int32 → Int32 → Int32 → (Nat → Int32) → (Nat → Int32) → (Nat → Int32) → (Nat → Int32) → (Nat → Int64) → Nat → Prop} {hd cn : Int32} {t ct : Nat → Int32} {ls : Nat → Int64} {nc a b : Nat} (hab : a ≤ b) (hb : b ≤ 14)
    (H : ∀ gt' gz' : Nat → Int32, th_LI (a * 225 + b * 15 + 15) (fun _ => 0) 0 gt' gz' → J10 (nI (b + 1)) hd (nI (th_nb (a * 225 + b * 15 + 15))) cn t gt' gz' ct ls nc) :
    ∀ (n c : Nat) (gt gz : Nat → Int32), b ≤ c → c ≤ 15 → 15 - c < n → th_LI (a * 225 + b * 15 + c) (fun _ => 0) 0 gt gz →
      wX_listGroupSets_18 post J2 J10 (nI a) (nI b) n (nI c) hd (nI (th_nb (a * 225 + b * 15 + c))) cn t gt gz ct ls nc := by
  intro n
  induction n with
  | zero => intro c gt gz _ _ h; omega
  | succ n ih =>
    intro c gt gz h1 h2 h3 L
    by_cases z : c = 15
    · subst z
      exact br_t (nI_lt (a := 14) (by omega) (by omega)) (nm_r (nI_1 b) (H gt gz L))
    · refine br_f (nI_nlt (b := c) (a := 14) (by omega) (by omega)) (th_x_set hab h1 (by omega) L fun gt' gz' L' => ?_)
      exact nm_r (nI_1 c) (ih (c + 1) gt' gz' (by omega) (by omega) (by omega) L')
theorem th_x_sets2 {post : SX → Prop} {J2 : Int32 → Int32 → Int32 → Int32 → (Nat → Int32) → (Nat → Int32) → (Nat → Int32) → (Nat → Int32) → (Nat → Int64) → Nat → Prop} {hd cn : Int32} {t ct : Nat → Int32} {ls : Nat → Int64} {nc a : Nat} (ha : a ≤ 14)
    (H : ∀ gt' gz' : Nat → Int32, th_LI (a * 225 + 15 * 15) (fun _ => 0) 0 gt' gz' → J2 (nI (a + 1)) hd (nI (th_nb (a * 225 + 15 * 15))) cn t gt' gz' ct ls nc) :
    ∀ (n b : Nat) (gt gz : Nat → Int32), a ≤ b → b ≤ 15 → 15 - b < n → th_LI (a * 225 + b * 15) (fun _ => 0) 0 gt gz →
      wX_listGroupSets_10 post J2 (nI a) n (nI b) hd (nI (th_nb (a * 225 + b * 15))) cn t gt gz ct ls nc := by
  intro n
  induction n with
  | zero => intro c gt gz _ _ h; omega
  | succ n ih =>
    intro b gt gz h1 h2 h3 L
    by_cases z : b = 15
    · subst z
      exact br_t (nI_lt (a := 14) (by omega) (by omega)) (nm_r (nI_1 a) (H gt gz L))
    · have g : ∀ x, a * 225 + b * 15 ≤ x → x < a * 225 + b * 15 + b → th_srt x = false := by
        intro x x1 x2
        rw [th_srt_no]
        omega
      have L' := th_LI_gap (by omega) g L
      have nb := th_nb_gap (by omega) g
      refine br_f (nI_nlt (b := b) (a := 14) (by omega) (by omega)) ⟨16, ?_⟩
      rw [← nb]
      refine th_x_sets3 h1 (by omega) (fun gt' gz' L2 => ?_) 16 b gt gz (by omega) (by omega) (by omega) L'
      have e : a * 225 + b * 15 + 15 = a * 225 + (b + 1) * 15 := by omega
      rw [e] at L2 ⊢
      exact ih (b + 1) gt' gz' (by omega) (by omega) (by omega) L2
theorem th_x_sets1 {post : SX → Prop} {hd cn : Int32} {t ct : Nat → Int32} {ls : Nat → Int64} {nc : Nat}
    (H : ∀ (gs : Int32) (gt' gz' : Nat → Int32), th_LI 3375 (fun _ => 0) 0 gt' gz' → post (hd, gs, cn, t, gt', gz', ct, ls, nc)) :
    ∀ (n a : Nat) (gt gz : Nat → Int32), a ≤ 15 → 15 - a < n → th_LI (a * 225) (fun _ => 0) 0 gt gz →
      wX_listGroupSets_2 post n (nI a) hd (nI (th_nb (a * 225))) cn t gt gz ct ls nc := by
  intro n
  induction n with
  | zero => intro a gt gz _ h; omega
  | succ n ih =>
    intro a gt gz h1 h2 L
    by_cases z : a = 15
    · subst z
      exact br_t (nI_lt (a := 14) (by omega) (by omega)) (H _ gt gz L)
    · have g : ∀ x, a * 225 ≤ x → x < a * 225 + a * 15 → th_srt x = false := by
        intro x x1 x2
        rw [th_srt_no]
        omega
      have L' := th_LI_gap (by omega) g L
      have nb := th_nb_gap (by omega) g
      refine br_f (nI_nlt (b := a) (a := 14) (by omega) (by omega)) ⟨16, ?_⟩
      rw [← nb]
      refine th_x_sets2 (by omega) (fun gt' gz' L2 => ?_) 16 a gt gz (by omega) (by omega) (by omega) L'
      have e : a * 225 + 15 * 15 = (a + 1) * 225 := by omega
      rw [e] at L2 ⊢
      exact ih (a + 1) gt' gz' (by omega) (by omega) L2
theorem th_x_listSets {post : SX → Prop} {hd cn : Int32} {t ct : Nat → Int32} {ls : Nat → Int64} {nc : Nat}
    (H : ∀ (gs : Int32) (gt' gz' : Nat → Int32), th_RG gt' gz' → post (hd, gs, cn, t, gt', gz', ct, ls, nc)) :
    wpX_listGroupSets post (hd, 0, cn, t, (fun _ => 0), (fun _ => 0), ct, ls, nc) := by
  refine ⟨16, th_x_sets1 (fun gs gt' gz' L => H gs gt' gz' fun i hi => ?_) 16 0 _ _ (by omega) (by omega) ⟨fun q' h => absurd h (by omega), fun k hk => rfl, rfl, fun j _ => rfl, fun j _ => rfl⟩⟩
  obtain ⟨a, b, c⟩ := th_qi_s hi
  have := L.1 (th_qi i) a b
  rw [c] at this
  exact this
end
section
/-! the class's constructor: the list of complete hands -/
theorem th_bits {ls : Nat → Int64} {x y : Nat} : th_lb (vp_updL ls (x / 64) (ls (x / 64) ||| ((1 : Int64) <<< ((nI (x % 64)).toInt64 &&& 63))) (y / 64)) (y % 64) = (th_lb (ls (y / 64)) (y % 64) || decide (y = x)) := by
  by_cases z : y / 64 = x / 64
  · rw [z, pk_uLs, th_lor (by omega) (by omega)]
    congr 1
    rw [decide_eq_decide]
    omega
  · rw [pk_uLn z]
    have : ¬ y = x := fun e => z (by rw [e])
    rw [decide_eq_false this, Bool.or_false]
theorem th_x_mark {post : Int32 → SX → Prop} {hd gs cn : Int32} {t gt gz ct : Nat → Int32} {ls : Nat → Int64} {nc x : Nat} (hx : x < 1953125)
    (H : ∀ ls' : Nat → Int64, (∀ y, th_lb (ls' (y / 64)) (y % 64) = (th_lb (ls (y / 64)) (y % 64) || decide (y = x))) → post (if th_lb (ls (x / 64)) (x % 64) then 0 else 1) (hd, gs, cn, t, gt, gz, ct, ls', nc)) :
    wpX_markListed post (hd, gs, cn, t, gt, gz, ct, ls, nc) (nI x) := by
  have rem := pk_rem (a := x) (d := 64) (by omega) (by omega) (by omega)
  have div := pk_div (a := x) (d := 64) (by omega) (by omega) (by omega)
  have in3 : vp_in (nI (x / 64)) 30518 := vp_in_nI (by omega) (by omega)
  have ec : (nI (x / 64)).toNatClampNeg = x / 64 := nI_clamp (by omega)
  have rem' : nI x - nI x / 64 * 64 = nI (x % 64) := rem
  refine ⟨by decide, nm_r (e' := nI (x / 64)) div ⟨by decide, ?_⟩⟩
  rw [rem']
  refine nm_e ⟨in3, ?_⟩
  rw [ec]
  have h' := H _ (fun y => th_bits (ls := ls) (x := x) (y := y))
  refine br_c (fun z => ?_) (fun z => ?_)
  · refine ⟨in3, in3, nm_r (e' := vp_updL ls (x / 64) (ls (x / 64) ||| ((1 : Int64) <<< ((nI (x % 64)).toInt64 &&& 63)))) (by rw [ec]) ⟨rfl, ?_⟩⟩
    rw [(th_land (by omega)).mp z] at h'
    exact h'
  · refine ⟨in3, in3, nm_r (e' := vp_updL ls (x / 64) (ls (x / 64) ||| ((1 : Int64) <<< ((nI (x % 64)).toInt64 &&& 63)))) (by rw [ec]) ⟨rfl, ?_⟩⟩
    have zt : th_lb (ls (x / 64)) (x % 64) = true := by
      cases y : th_lb (ls (x / 64)) (x % 64) with
      | true => rfl
      | false => exact absurd ((th_land (by omega)).mpr y) z
    rw [zt] at h'
    exact h'
/-- the sets of three among the first -/
noncomputable def th_n3 (i : Nat) : Nat := th_cnt (fun j => decide (th_sz (th_qi j) = 3)) i
theorem th_n3_all : th_n3 680 = 560 := by
  have c := th_cnt_nb (fun j => decide (th_sz (th_qi j) = 3)) 3375
  rw [th_nb_all] at c
  unfold th_n3
  rw [c, th_cnt_ext (Q := fun q => th_srt q && decide (th_sz q = 3)) 3375 fun q hq => ?_]
  · decide +kernel
  · cases z : th_srt q with
    | false => rfl
    | true => rw [th_qi_nb hq z]
theorem th_n3_s {i : Nat} (h : th_sz (th_qi i) = 3) : th_n3 (i + 1) = th_n3 i + 1 := by
  show th_cnt _ i + (if decide (th_sz (th_qi i) = 3) then 1 else 0) = th_cnt _ i + 1
  rw [decide_eq_true h]; rfl
theorem th_n3_n {i : Nat} (h : ¬ th_sz (th_qi i) = 3) : th_n3 (i + 1) = th_n3 i := by
  show th_cnt _ i + (if decide (th_sz (th_qi i) = 3) then 1 else 0) = th_cnt _ i
  rw [decide_eq_false h]; rfl
theorem th_n3_lt {i : Nat} (hi : i < 680) (h : th_sz (th_qi i) = 3) : th_n3 i < 560 := by
  have a := th_n3_s h
  have b := th_cnt_mono (fun j => decide (th_sz (th_qi j) = 3)) 680 (m := i + 1) hi
  have c := th_n3_all
  unfold th_n3 at *
  omega
/-- up to set i, pair p all complete hands are listed -/
def th_CI (i p : Nat) (cn : Int32) (ct : Nat → Int32) (ls : Nat → Int64) : Prop := ∃ (m : Nat) (l : Nat → Nat), cn = nI m ∧ m ≤ 9 * th_n3 i + p ∧ (∀ i j, i < m → j < m → l i = l j → i = j) ∧ (∀ j, j < m → th_CH (l j)) ∧
  (∀ i' p', (i' < i ∨ (i' = i ∧ p' < p)) → i' < 680 → p' < 9 → th_val (th_qi i') p' = true → ∃ j, j < m ∧ l j = th_code (th_cv (th_qi i') p')) ∧
  (∀ x, x < 1953125 → (th_lb (ls (x / 64)) (x % 64) = true ↔ ∃ j, j < m ∧ l j = x)) ∧ ∀ j, j < m → ∀ k, k < 9 → ct (j * 9 + k) = nI (th_dg (l j) k)
theorem th_CH_lt {x : Nat} (c : th_CH x) : x < 1953125 := by
  obtain ⟨q, p, _, _, v, rfl⟩ := c
  exact th_code_lt (th_val_iff.mp v).2.2
/-- one hand is listed -/
theorem th_x_hand {post : SX → Prop} {hd gs cn : Int32} {t gt gz ct : Nat → Int32} {ls : Nat → Int64} {i p : Nat} (G : th_RG gt gz) (hi : i < 680) (hp : p < 9) (h3 : th_sz (th_qi i) = 3) (I : th_CI i p cn ct ls)
    (H : ∀ (cn' : Int32) (ct' : Nat → Int32) (ls' : Nat → Int64), th_CI i (p + 1) cn' ct' ls' → post (hd, gs, cn', t, gt, gz, ct', ls', 45360)) :
    wpX_listCompleteHand post (hd, gs, cn, t, gt, gz, ct, ls, 45360) (nI i) (nI p) := by
  obtain ⟨m, l, rfl, mb, inj, ch, cov, bits, cells⟩ := I
  have n3 := th_n3_lt hi h3
  have m5 : m < 5040 := by omega
  obtain ⟨q0, q1, q2⟩ := th_qi_s hi
  refine br_t (nI_lt (b := 5040) m5 (by omega)) (nm_r (th_m9 m) ?_)
  refine loop_0 (fun n k (s : Int32 × (Nat → Int32)) => wX_listCompleteHand_25 post (nI i) (nI p) (nI (m * 9)) hd gs (nI m) 45360 n s.1 (nI k) t gt gz s.2 ls)
    (fun k s => s.1 = nI (th_hp (th_cv (th_qi i) p) k) ∧ (∀ j, j < k → th_cv (th_qi i) p j ≤ 4) ∧ (∀ j, j < m * 9 → s.2 j = ct j) ∧ ∀ j, j < k → s.2 (m * 9 + j) = nI (th_cv (th_qi i) p j)) 9 (0, ct) ⟨rfl, fun j hj => absurd hj (by omega), fun j _ => rfl, fun j hj => absurd hj (by omega)⟩ ?_ ?_
  · rintro n ⟨x4, c1⟩ ⟨e1, le4, old, new⟩
    dsimp only at e1 old new ⊢
    subst e1
    have val : th_val (th_qi i) p = true := th_val_iff.mpr ⟨q1, h3, le4⟩
    have hx := th_code_lt le4
    have CHx : th_CH (th_code (th_cv (th_qi i) p)) := ⟨_, p, q0, hp, val, rfl⟩
    obtain ⟨x, ex⟩ : ∃ x, x = th_code (th_cv (th_qi i) p) := ⟨_, rfl⟩
    have ex' : th_hp (th_cv (th_qi i) p) 9 = x := ex.symm
    rw [← ex] at hx CHx
    rw [ex']
    have bx := bits x hx
    refine br_t (nI_le (a := 9) (b := 9) (by omega) (by omega)) (th_x_mark hx fun ls' hls => ?_)
    have cells' : ∀ j, j < m → ∀ k, k < 9 → c1 (j * 9 + k) = nI (th_dg (l j) k) := fun j hj k hk => by rw [old _ (by omega)]; exact cells j hj k hk
    cases z : th_lb (ls (x / 64)) (x % 64) with
    | true =>
      obtain ⟨j0, hj0, ej0⟩ := bx.mp z
      refine br_t rfl (H _ _ _ ⟨m, l, rfl, by omega, inj, ch, fun i' p' hh a b v => ?_, fun y hy => ?_, cells'⟩)
      · by_cases w : i' = i ∧ p' = p
        · rw [w.1, w.2, ← ex]; exact ⟨j0, hj0, ej0⟩
        · exact cov i' p' (by omega) a b v
      · rw [hls y, Bool.or_eq_true, bits y hy, decide_eq_true_eq]
        constructor
        · rintro (w | w)
          · exact w
          · rw [w]; exact ⟨j0, hj0, ej0⟩
        · exact Or.inl
    | false =>
      have fresh : ∀ j, j < m → ¬ l j = x := fun j hj e => by
        rw [bx.mpr ⟨j, hj, e⟩] at z; cases z
      refine br_f (by decide) (nm_r (nI_1 m) (H _ _ _ ⟨m + 1, th_put l m x, rfl, by omega, fun a b ha hb e => ?_, fun j hj => ?_, fun i' p' hh a b v => ?_, fun y hy => ?_, fun j hj k hk => ?_⟩))
      · by_cases wa : a = m
        · by_cases wb : b = m
          · omega
          · subst wa
            rw [th_put_s, th_put_n wb] at e
            exact absurd e.symm (fresh b (by omega))
        · by_cases wb : b = m
          · subst wb
            rw [th_put_s, th_put_n wa] at e
            exact absurd e (fresh a (by omega))
          · rw [th_put_n wa, th_put_n wb] at e
            exact inj a b (by omega) (by omega) e
      · by_cases w : j = m
        · rw [w, th_put_s]; exact CHx
        · rw [th_put_n w]; exact ch j (by omega)
      · by_cases w : i' = i ∧ p' = p
        · rw [w.1, w.2, ← ex]; exact ⟨m, by omega, th_put_s⟩
        · obtain ⟨j, hj, ej⟩ := cov i' p' (by omega) a b v
          exact ⟨j, by omega, by rw [th_put_n (by omega)]; exact ej⟩
      · rw [hls y, Bool.or_eq_true, bits y hy, decide_eq_true_eq]
        constructor
        · rintro (⟨j, hj, ej⟩ | w)
          · exact ⟨j, by omega, by rw [th_put_n (by omega)]; exact ej⟩
          · rw [w]; exact ⟨m, by omega, th_put_s⟩
        · rintro ⟨j, hj, ej⟩
          by_cases w : j = m
          · rw [w, th_put_s] at ej; exact Or.inr ej.symm
          · rw [th_put_n w] at ej; exact Or.inl ⟨j, by omega, ej⟩
      · by_cases w : j = m
        · rw [w, th_put_s, new k hk, ex, th_dg_code le4 k hk]
        · rw [th_put_n w]; exact cells' j (by omega) k hk
  · rintro n k ⟨x4, c1⟩ hk ⟨e1, le4, old, new⟩ ih
    dsimp only at e1 old new ih ⊢
    subst e1
    have ec : nI i * 9 + nI k = nI (i * 9 + k) := by rw [th_m9, nI_add]
    have e0 : (nI (i * 9 + k)).toNatClampNeg = i * 9 + k := nI_clamp (by omega)
    have em : nI (m * 9) + nI k = nI (m * 9 + k) := nI_add _ _
    have e2 : (nI (m * 9 + k)).toNatClampNeg = m * 9 + k := nI_clamp (by omega)
    have v9 := th_vec9 (th_qi i) k
    have c11 : th_cv (th_qi i) p k ≤ 11 := by unfold th_cv; split <;> omega
    have go : wX_listCompleteHand_55 post (wX_listCompleteHand_25 post (nI i) (nI p) (nI (m * 9)) hd gs (nI m) 45360 n) (nI i) (nI p) (nI (m * 9)) (nI (th_hp (th_cv (th_qi i) p) k)) (nI k) (nI (th_cv (th_qi i) p k)) hd gs (nI m) t gt gz c1 ls 45360 := by
      refine pk_le (th_cv (th_qi i) p k) 4 (fun z => ?_) (fun z => ?_)
      · rw [em]
        refine ⟨vp_in_nI (by omega) (by omega), nm_r (e' := upd c1 (m * 9 + k) (nI (th_cv (th_qi i) p k))) (by rw [e2]) (nm_r (e' := nI (th_hp (th_cv (th_qi i) p) (k + 1))) (by rw [th_m5, nI_add]; rfl) (nm_r (nI_1 k) (ih (nI (th_hp (th_cv (th_qi i) p) (k + 1)), upd c1 (m * 9 + k) (nI (th_cv (th_qi i) p k))) ⟨rfl, fun j hj => ?_, fun j hj => ?_, fun j hj => ?_⟩)))⟩
        · by_cases w : j = k
          · rw [w]; exact z
          · exact le4 j (by omega)
        · dsimp only
          rw [pk_un (by omega)]; exact old j hj
        · dsimp only
          by_cases w : j = k
          · rw [w, pk_us]
          · rw [pk_un (by omega)]; exact new j (by omega)
      · refine H _ _ _ ⟨m, l, rfl, by omega, inj, ch, fun i' p' hh a b v => ?_, bits, fun j hj k' hk' => by rw [old _ (by omega)]; exact cells j hj k' hk'⟩
        by_cases w : i' = i ∧ p' = p
        · rw [w.1, w.2] at v
          have := (th_val_iff.mp v).2.2 k hk
          omega
        · exact cov i' p' (by omega) a b v
    refine br_f (nI_ge (b := 9) hk (by omega)) ?_
    rw [ec]
    refine ⟨vp_in_nI (by omega) (by omega), nm_r (e' := nI (th_vec (th_qi i) k)) (by rw [e0, (G i hi).2 k hk]) (pk_eq k p (fun z => ?_) (fun z => ?_))⟩
    · refine nm_r (e' := nI (th_cv (th_qi i) p k)) (by rw [th_2]; unfold th_cv; rw [if_pos z]) go
    · have e : th_vec (th_qi i) k = th_cv (th_qi i) p k := by unfold th_cv; rw [if_neg z]; rfl
      rw [e]
      exact go
theorem th_CI_n {i : Nat} {cn : Int32} {ct : Nat → Int32} {ls : Nat → Int64} (h : ¬ th_sz (th_qi i) = 3) (I : th_CI i 0 cn ct ls) : th_CI (i + 1) 0 cn ct ls := by
  obtain ⟨m, l, a, b, c, d, e, f, g⟩ := I
  refine ⟨m, l, a, by rw [th_n3_n h]; exact b, c, d, fun i' p' hh x y v => ?_, f, g⟩
  by_cases w : i' = i
  · rw [w] at v; exact absurd (th_val_iff.mp v).2.1 h
  · exact e i' p' (by omega) x y v
theorem th_CI_s {i : Nat} {cn : Int32} {ct : Nat → Int32} {ls : Nat → Int64} (h : th_sz (th_qi i) = 3) (I : th_CI i 9 cn ct ls) : th_CI (i + 1) 0 cn ct ls := by
  obtain ⟨m, l, a, b, c, d, e, f, g⟩ := I
  refine ⟨m, l, a, by rw [th_n3_s h]; omega, c, d, fun i' p' hh x y v => ?_, f, g⟩
  exact e i' p' (by omega) x y v
theorem th_x_hands {post : SX → Prop} {hd gs : Int32} {t gt gz : Nat → Int32} (G : th_RG gt gz)
    (H : ∀ (cn' : Int32) (ct' : Nat → Int32) (ls' : Nat → Int64) (m : Nat) (l : Nat → Nat), th_RC cn' ct' 45360 m l → post (hd, gs, cn', t, gt, gz, ct', ls', 45360)) :
    wpX_listCompleteHands post (hd, gs, 0, t, gt, gz, (fun _ => 0), (fun _ => 0), 45360) := by
  refine loop_0 (fun n i (s : Int32 × (Nat → Int32) × (Nat → Int64)) => wX_listCompleteHands_2 post n (nI i) hd gs s.1 t gt gz s.2.1 s.2.2 45360) (fun i s => th_CI i 0 s.1 s.2.1 s.2.2) 680 (0, (fun _ => 0), (fun _ => 0)) ?_ ?_ ?_
  · refine ⟨0, fun _ => 0, rfl, by omega, fun a b ha => absurd ha (by omega), fun j hj => absurd hj (by omega), fun i' p' hh => absurd hh (by omega), fun x hx => ?_, fun j hj => absurd hj (by omega)⟩
    constructor
    · intro z
      have : th_lb 0 (x % 64) = false := BitVec.getLsbD_zero
      dsimp only at z
      rw [this] at z; cases z
    · rintro ⟨j, hj, _⟩; omega
  · rintro n ⟨cn, ct, ls⟩ I
    dsimp only at I ⊢
    obtain ⟨m, l, a, b, c, d, e, f, g⟩ := I
    refine br_t (nI_le (a := 680) (b := 680) (by omega) (by omega)) (H cn ct ls m l ⟨rfl, by rw [th_n3_all] at b; omega, a, c, fun x => ⟨fun cx => ?_, fun ⟨j, hj, ej⟩ => by rw [← ej]; exact d j hj⟩, g⟩)
    obtain ⟨q, p, hq, hp, v, rfl⟩ := cx
    have sr := (th_val_iff.mp v).1
    have lt := th_nb_lt hq sr
    have := e (th_nb q) p (Or.inl lt) lt hp
    rw [th_qi_nb hq sr] at this
    exact this v
  · rintro n i ⟨cn, ct, ls⟩ hi I ih
    dsimp only at I ih ⊢
    have ei : (nI i).toNatClampNeg = i := nI_clamp (by omega)
    have z3 := th_sz3 (th_qi i)
    refine br_f (nI_ge (b := 680) hi (by omega)) ⟨vp_in_nI hi (by omega), ?_⟩
    rw [ei, (G i hi).1]
    refine pk_eq (th_sz (th_qi i)) 3 (fun h3 => ?_) (fun h3 => nm_r (nI_1 i) (ih (cn, ct, ls) (th_CI_n h3 I)))
    refine loop_0 (fun n' p (s : Int32 × (Nat → Int32) × (Nat → Int64)) => wX_listCompleteHands_21 post (wX_listCompleteHands_2 post n) (nI i) n' (nI p) hd gs s.1 t gt gz s.2.1 s.2.2 45360) (fun p s => th_CI i p s.1 s.2.1 s.2.2) 9 (cn, ct, ls) I ?_ ?_
    · rintro n' ⟨cn1, ct1, ls1⟩ I1
      exact br_t (nI_le (a := 9) (b := 9) (by omega) (by omega)) (nm_r (nI_1 i) (ih (cn1, ct1, ls1) (th_CI_s h3 I1)))
    · rintro n' p ⟨cn1, ct1, ls1⟩ hp I1 ih1
      refine br_f (nI_ge (b := 9) hp (by omega)) (th_x_hand G hi hp h3 I1 fun cn2 ct2 ls2 I2 => ?_)
      exact nm_r (nI_1 p) (ih1 (cn2, ct2, ls2) I2)
theorem th_x_init {post : SX → Prop}
    (H : ∀ (gs cn : Int32) (gt gz ct : Nat → Int32) (ls : Nat → Int64) (m : Nat) (l : Nat → Nat), th_RG gt gz → th_RC cn ct 45360 m l → post (0, gs, cn, (fun _ => 0), gt, gz, ct, ls, 45360)) :
    wpX_init post := by
  refine ⟨by decide, nm_r (e' := 45360) (by decide) ⟨by omega, ?_⟩⟩
  refine th_x_listSets fun gs gt gz G => ?_
  exact th_x_hands G fun cn ct ls m l C => H gs cn gt gz ct ls m l G C
end
section
/-! add, drop, turn, clear, have on both sides -/
def th_bad (x : Int32) : Prop := x < 0 ∨ 9 ≤ x
theorem th_kind (x : Int32) : th_bad x ∨ ∃ j : Nat, j < 9 ∧ x = nI j := by
  rcases pk_ix x (n := 9) (by omega) with h | h | h
  · exact Or.inl (Or.inl h)
  · exact Or.inl (Or.inr h)
  · exact Or.inr h
theorem th_9 {x : Int32} (h : 9 ≤ x) : ¬ x < 0 ∧ ¬ x ≤ 8 := by
  rw [Int32.le_iff_toInt_le, show (9 : Int32).toInt = 9 from by decide] at h
  rw [Int32.lt_iff_toInt_lt, Int32.le_iff_toInt_le, show (0 : Int32).toInt = 0 from by decide, show (8 : Int32).toInt = 8 from by decide]
  omega
theorem th_x_kind_b {post : Int32 → Prop} {u : SX} {x : Int32} (b : th_bad x) (H : post 0) : wpX_isKind post u x := by
  unfold wpX_isKind
  rcases b with b | b
  · exact br_t b H
  · exact br_f (th_9 b).1 (br_t b H)
theorem th_x_kind_g {post : Int32 → Prop} {u : SX} {j : Nat} (hj : j < 9) (H : post 1) : wpX_isKind post u (nI j) := by
  unfold wpX_isKind
  exact br_f (nI_pos (by omega)) (br_f (nI_ge (b := 9) hj (by omega)) H)
theorem th_y_bad_b {post : Int32 → Prop} {u : SY} {x : Int32} (b : th_bad x) (H : post 1) : wpY_bad post u x := by
  unfold wpY_bad
  rcases b with b | b
  · exact br_t b H
  · exact br_f (th_9 b).1 (br_f (th_9 b).2 H)
theorem th_y_bad_g {post : Int32 → Prop} {u : SY} {j : Nat} (hj : j < 9) (H : post 0) : wpY_bad post u (nI j) := by
  unfold wpY_bad
  exact br_f (nI_pos (by omega)) (br_t (nI_le (b := 8) (by omega) (by omega)) H)
section
variable {h : Nat → Nat} {gs cn lk lf lv : Int32} {t gt gz ct ch gr rs : Nat → Int32} {ls : Nat → Int64} {nc j : Nat}
theorem th_x_add_b {post : Int32 → SX → Prop} {hd x : Int32} (b : th_bad x) (H : post (-1) (hd, gs, cn, t, gt, gz, ct, ls, nc)) : wpX_add post (hd, gs, cn, t, gt, gz, ct, ls, nc) x := by
  unfold wpX_add
  dsimp only
  exact th_x_kind_b b (br_t rfl H)
theorem th_y_add_b {post : Int32 → SY → Prop} {hd x : Int32} (b : th_bad x) (H : post (-1) (hd, lk, lf, lv, t, ch, gr, rs)) : wpY_add post (hd, lk, lf, lv, t, ch, gr, rs) x := by
  unfold wpY_add
  dsimp only
  exact th_y_bad_b b (br_f (by decide) H)
theorem th_x_add_g {post : Int32 → SX → Prop} (hj : j < 9) (T : t j = nI (h j)) (h4 : h j ≤ 4) (s11 : th_s9 h ≤ 11)
    (H1 : h j = 4 → post (-4) (nI (th_s9 h), gs, cn, t, gt, gz, ct, ls, nc)) (H2 : h j ≠ 4 → th_s9 h = 11 → post (-2) (nI (th_s9 h), gs, cn, t, gt, gz, ct, ls, nc))
    (H3 : h j ≠ 4 → th_s9 h ≠ 11 → post (nI (th_s9 h + 1)) (nI (th_s9 h + 1), gs, cn, upd t j (nI (h j + 1)), gt, gz, ct, ls, nc)) : wpX_add post (nI (th_s9 h), gs, cn, t, gt, gz, ct, ls, nc) (nI j) := by
  have e : (nI j).toNatClampNeg = j := nI_clamp (by omega)
  have in9 : vp_in (nI j) 9 := vp_in_nI hj (by omega)
  unfold wpX_add
  dsimp only
  refine th_x_kind_g hj (br_f (by decide) ⟨in9, ?_⟩)
  rw [e, T]
  refine pk_eq (h j) 4 H1 (fun z => pk_eq (th_s9 h) 11 (fun y => H2 z y) (fun y => ⟨in9, in9, nm_r (e' := upd t j (nI (h j + 1))) (by rw [nI_1]) (nm_r (nI_1 _) (H3 z y))⟩))
theorem th_y_add_g {post : Int32 → SY → Prop} (hj : j < 9) (T : t j = nI (h j)) (h4 : h j ≤ 4) (s11 : th_s9 h ≤ 11)
    (H1 : h j = 4 → post (-4) (nI (th_s9 h), lk, lf, lv, t, ch, gr, rs)) (H2 : h j ≠ 4 → th_s9 h = 11 → post (-2) (nI (th_s9 h), lk, lf, lv, t, ch, gr, rs))
    (H3 : h j ≠ 4 → th_s9 h ≠ 11 → post (nI (th_s9 h + 1)) (nI (th_s9 h + 1), lk, lf, lv, upd t j (nI (h j + 1)), ch, gr, rs)) : wpY_add post (nI (th_s9 h), lk, lf, lv, t, ch, gr, rs) (nI j) := by
  have e : (nI j).toNatClampNeg = j := nI_clamp (by omega)
  have in9 : vp_in (nI j) 9 := vp_in_nI hj (by omega)
  unfold wpY_add
  dsimp only
  refine th_y_bad_g hj (br_t rfl ⟨in9, ?_⟩)
  rw [e, T]
  refine pk_eq (h j) 4 H1 (fun z => pk_eq (th_s9 h) 11 (fun y => H2 z y) (fun y => ⟨in9, in9, nm_r (e' := upd t j (nI (h j + 1))) (by rw [nI_1]) (nm_r (nI_1 _) (H3 z y))⟩))
theorem th_x_drop_b {post : Int32 → SX → Prop} {hd x : Int32} (b : th_bad x) (H : post (-1) (hd, gs, cn, t, gt, gz, ct, ls, nc)) : wpX_drop post (hd, gs, cn, t, gt, gz, ct, ls, nc) x := by
  unfold wpX_drop
  dsimp only
  exact th_x_kind_b b (br_t rfl H)
theorem th_y_drop_b {post : Int32 → SY → Prop} {hd x : Int32} (b : th_bad x) (H : post (-1) (hd, lk, lf, lv, t, ch, gr, rs)) : wpY_drop post (hd, lk, lf, lv, t, ch, gr, rs) x := by
  unfold wpY_drop
  dsimp only
  exact th_y_bad_b b (br_f (by decide) H)
theorem th_x_drop_g {post : Int32 → SX → Prop} (hj : j < 9) (T : t j = nI (h j)) (h4 : h j ≤ 4) (s11 : th_s9 h ≤ 11) (hs : h j ≤ th_s9 h)
    (H1 : h j = 0 → post (-4) (nI (th_s9 h), gs, cn, t, gt, gz, ct, ls, nc))
    (H3 : h j ≠ 0 → post (nI (th_s9 h - 1)) (nI (th_s9 h - 1), gs, cn, upd t j (nI (h j - 1)), gt, gz, ct, ls, nc)) : wpX_drop post (nI (th_s9 h), gs, cn, t, gt, gz, ct, ls, nc) (nI j) := by
  have e : (nI j).toNatClampNeg = j := nI_clamp (by omega)
  have in9 : vp_in (nI j) 9 := vp_in_nI hj (by omega)
  unfold wpX_drop
  dsimp only
  refine th_x_kind_g hj (br_f (by decide) ⟨in9, ?_⟩)
  rw [e, T]
  refine pk_eq (h j) 0 H1 (fun z => ⟨in9, in9, nm_r (e' := upd t j (nI (h j - 1))) (by rw [th_s1 (by omega)]) (nm_r (th_s1 (by omega)) (H3 z))⟩)
theorem th_y_drop_g {post : Int32 → SY → Prop} (hj : j < 9) (T : t j = nI (h j)) (h4 : h j ≤ 4) (s11 : th_s9 h ≤ 11) (hs : h j ≤ th_s9 h)
    (H1 : h j = 0 → post (-4) (nI (th_s9 h), lk, lf, lv, t, ch, gr, rs))
    (H3 : h j ≠ 0 → post (nI (th_s9 h - 1)) (nI (th_s9 h - 1), lk, lf, lv, upd t j (nI (h j - 1)), ch, gr, rs)) : wpY_drop post (nI (th_s9 h), lk, lf, lv, t, ch, gr, rs) (nI j) := by
  have e : (nI j).toNatClampNeg = j := nI_clamp (by omega)
  have in9 : vp_in (nI j) 9 := vp_in_nI hj (by omega)
  unfold wpY_drop
  dsimp only
  refine th_y_bad_g hj (br_t rfl ⟨in9, ?_⟩)
  rw [e, T]
  refine pk_eq (h j) 0 H1 (fun z => ⟨in9, in9, nm_r (e' := upd t j (nI (h j - 1))) (by rw [th_s1 (by omega)]) (nm_r (th_s1 (by omega)) (H3 z))⟩)
theorem th_x_have_b {post : Int32 → Prop} {hd x : Int32} (b : th_bad x) (H : post (-1)) : wpX_have post (hd, gs, cn, t, gt, gz, ct, ls, nc) x := by
  unfold wpX_have
  dsimp only
  exact th_x_kind_b b (br_t rfl H)
theorem th_y_have_b {post : Int32 → Prop} {hd x : Int32} (b : th_bad x) (H : post (-1)) : wpY_have post (hd, lk, lf, lv, t, ch, gr, rs) x := by
  unfold wpY_have
  dsimp only
  exact th_y_bad_b b (br_f (by decide) H)
theorem th_x_have_g {post : Int32 → Prop} {hd : Int32} (hj : j < 9) (H : post (t j)) : wpX_have post (hd, gs, cn, t, gt, gz, ct, ls, nc) (nI j) := by
  unfold wpX_have
  dsimp only
  refine th_x_kind_g hj (br_f (by decide) ⟨vp_in_nI hj (by omega), ?_⟩)
  rw [nI_clamp (by omega)]
  exact H
theorem th_y_have_g {post : Int32 → Prop} {hd : Int32} (hj : j < 9) (H : post (t j)) : wpY_have post (hd, lk, lf, lv, t, ch, gr, rs) (nI j) := by
  unfold wpY_have
  dsimp only
  refine th_y_bad_g hj (br_t rfl ⟨vp_in_nI hj (by omega), ?_⟩)
  rw [nI_clamp (by omega)]
  exact H
/-- turn: the swaps -/
def th_sw (t : Nat → Int32) (i : Nat) : Nat → Int32 := upd (upd t i (t (6 - i))) (6 - i) (t i)
def th_tn (t : Nat → Int32) : Nat → Nat → Int32
  | 0 => t
  | n + 1 => th_sw (th_tn t n) n
theorem th_6 {i : Nat} (hi : i < 3) : (6 : Int32) - nI i = nI (6 - i) := pk_sub (a := 6) (by omega)
theorem th_x_turn {post : Int32 → SX → Prop} {hd : Int32} (H : post hd (hd, gs, cn, th_tn t 3, gt, gz, ct, ls, nc)) : wpX_turn post (hd, gs, cn, t, gt, gz, ct, ls, nc) := by
  refine loop_0 (fun n i s => wX_turn_2 post hd gs cn nc n (nI i) s gt gz ct ls) (fun i s => s = th_tn t i) 3 t rfl ?_ ?_
  · rintro n s rfl
    exact br_t (nI_le (a := 3) (b := 3) (by omega) (by omega)) H
  · rintro n i s hi rfl ih
    have e : (nI i).toNatClampNeg = i := nI_clamp (by omega)
    have e6 : (nI (6 - i)).toNatClampNeg = 6 - i := nI_clamp (by omega)
    have in9 : vp_in (nI i) 9 := vp_in_nI (by omega) (by omega)
    have in6 : vp_in (nI (6 - i)) 9 := vp_in_nI (by omega) (by omega)
    refine br_f (nI_ge (b := 3) hi (by omega)) (nm_r (th_6 hi) ⟨in9, ?_⟩)
    rw [e, e6]
    exact nm_e ⟨in6, in9, nm_e ⟨in6, nm_e (nm_r (nI_1 i) (ih _ rfl))⟩⟩
theorem th_y_turn {post : Int32 → SY → Prop} {hd : Int32} (H : post hd (hd, lk, lf, lv, th_tn t 3, ch, gr, rs)) : wpY_turn post (hd, lk, lf, lv, t, ch, gr, rs) := by
  refine loop_0 (fun n i s => wY_turn_2 post hd lk lf lv n (nI i) s ch gr rs) (fun i s => s = th_tn t i) 3 t rfl ?_ ?_
  · rintro n s rfl
    exact br_t (nI_le (a := 3) (b := 3) (by omega) (by omega)) H
  · rintro n i s hi rfl ih
    have e : (nI i).toNatClampNeg = i := nI_clamp (by omega)
    have e6 : (nI (6 - i)).toNatClampNeg = 6 - i := nI_clamp (by omega)
    have in9 : vp_in (nI i) 9 := vp_in_nI (by omega) (by omega)
    have in6 : vp_in (nI (6 - i)) 9 := vp_in_nI (by omega) (by omega)
    refine br_f (nI_ge (b := 3) hi (by omega)) ⟨in9, ?_⟩
    rw [th_6 hi, e, e6]
    exact nm_e ⟨in6, in9, nm_e ⟨in6, nm_e (nm_r (nI_1 i) (ih _ rfl))⟩⟩
def th_hz (t : Nat → Int32) : Nat → Nat → Int32
  | 0 => t
  | n + 1 => upd (th_hz t n) n 0
theorem th_hz0 : ∀ n k, k < n → th_hz t n k = 0
  | n + 1, k, hk => by
    unfold th_hz
    by_cases z : k = n
    · subst z; exact pk_us
    · rw [pk_un z]; exact th_hz0 n k (by omega)
theorem th_x_clear {post : Int32 → SX → Prop} {hd : Int32} (H : post hd (0, gs, cn, th_hz t 9, gt, gz, ct, ls, nc)) : wpX_clear post (hd, gs, cn, t, gt, gz, ct, ls, nc) := by
  refine loop_0 (fun n i s => wX_clear_7 post hd hd gs cn nc n (nI i) s gt gz ct ls) (fun i s => s = th_hz t i) 9 t rfl ?_ ?_
  · rintro n s rfl
    exact br_t (nI_le (a := 9) (b := 9) (by omega) (by omega)) H
  · rintro n i s hi rfl ih
    exact br_f (nI_ge (b := 9) hi (by omega)) ⟨vp_in_nI hi (by omega), nm_r (e' := upd (th_hz t i) i 0) (by rw [nI_clamp (by omega)]) (nm_r (nI_1 i) (ih _ rfl))⟩
theorem th_y_clear {post : Int32 → SY → Prop} {hd : Int32} (H : post hd (0, lk, lf, lv, th_hz t 9, ch, gr, rs)) : wpY_clear post (hd, lk, lf, lv, t, ch, gr, rs) := by
  refine loop_0 (fun n i s => wY_clear_7 post hd hd lk lf lv n (nI i) s ch gr rs) (fun i s => s = th_hz t i) 9 t rfl ?_ ?_
  · rintro n s rfl
    exact br_t (nI_le (a := 9) (b := 9) (by omega) (by omega)) H
  · rintro n i s hi rfl ih
    exact br_f (nI_ge (b := 9) hi (by omega)) ⟨vp_in_nI hi (by omega), nm_r (e' := upd (th_hz t i) i 0) (by rw [nI_clamp (by omega)]) (nm_r (nI_1 i) (ih _ rfl))⟩
/-- the turned hand -/
def th_th (h : Nat → Nat) : Nat → Nat := fun k => if k < 7 then h (6 - k) else h k
theorem th_tn_th (T : ∀ k, k < 9 → t k = nI (h k)) : ∀ k, k < 9 → th_tn t 3 k = nI (th_th h k) := by
  have t' := th_all9 T
  refine th_c9 ?_ ?_ ?_ ?_ ?_ ?_ ?_ ?_ ?_ <;> simp [th_tn, th_sw, upd, th_th, t']
theorem th_th_s9 : th_s9 (th_th h) = th_s9 h := by
  simp [th_s9, th_th]
  omega
end
end
section
/-! the relation and what is owed -/
/-- one hand h on both sides; the class's two lists as the constructor left them -/
def i_Rel (k : Nat) (u : SX) (v : SY) : Prop := ∃ (h : Nat → Nat) (hd gs cn : Int32) (t gt gz ct : Nat → Int32) (ls : Nat → Int64) (m : Nat) (l : Nat → Nat) (lk lf lv : Int32) (ch gr rs : Nat → Int32),
  u = (hd, gs, cn, t, gt, gz, ct, ls, 45360) ∧ v = (hd, lk, lf, lv, t, ch, gr, rs) ∧ (∀ k, k < 9 → t k = nI (h k)) ∧ (∀ k, k < 9 → h k ≤ 4) ∧ hd = nI (th_s9 h) ∧ th_s9 h ≤ 11 ∧ th_RG gt gz ∧ th_RC cn ct 45360 m l
theorem i_up {k : Nat} {u : SX} {v : SY} (h : i_Rel k u v) : i_Rel (k + 2) u v := h
theorem i_vc0 : wpX_init (fun u => wpY_init (fun v => i_Rel 0 u v)) :=
  th_x_init fun gs cn gt gz ct ls m l G C => ⟨fun _ => 0, _, gs, cn, _, gt, gz, ct, ls, m, l, _, _, _, _, _, _, rfl, rfl, fun _ _ => rfl, fun _ _ => Nat.zero_le _, rfl, by decide, G, C⟩
theorem i_vc_add {k : Nat} {u : SX} {v : SY} (I : i_Rel k u v) (hk : k + 2 ≤ 1024) (v1 : Int32) : wpX_add (fun r u' => wpY_add (fun r' v' => r' = r ∧ i_Rel (k + 2) u' v') v v1) u v1 := by
  have I0 := I
  obtain ⟨h, hd, gs, cn, t, gt, gz, ct, ls, m, l, lk, lf, lv, ch, gr, rs, rfl, rfl, T, h4, rfl, s11, G, C⟩ := I
  rcases th_kind v1 with b | ⟨j, hj, rfl⟩
  · exact th_x_add_b b (th_y_add_b b ⟨rfl, I0⟩)
  · refine th_x_add_g hj (T j hj) (h4 j hj) s11 (fun z => ?_) (fun z y => ?_) (fun z y => ?_)
    · exact th_y_add_g hj (T j hj) (h4 j hj) s11 (fun _ => ⟨rfl, I0⟩) (fun z' _ => absurd z z') (fun z' _ => absurd z z')
    · exact th_y_add_g hj (T j hj) (h4 j hj) s11 (fun z' => absurd z' z) (fun _ _ => ⟨rfl, I0⟩) (fun _ y' => absurd y y')
    · refine th_y_add_g hj (T j hj) (h4 j hj) s11 (fun z' => absurd z' z) (fun _ y' => absurd y' y) (fun _ _ => ⟨rfl, ?_⟩)
      have Y := th_YH_inc hj (sz := nI (th_s9 h)) (hv := t) ⟨T, h4, rfl, by omega⟩ (by have := h4 j hj; omega) s11
      have e : th_s9 (th_inc h j) = th_s9 h + 1 := by
        have e := th_s9_put (fun _ y => y) h (h j + 1) j hj
        have e' : th_s9 (th_inc h j) = th_s9 (fun i => th_put h j (h j + 1) i) := th_s9_ext fun i _ => th_inc_put i
        have : th_s9 (fun j => h j) = th_s9 h := rfl
        omega
      exact ⟨th_inc h j, _, gs, cn, _, gt, gz, ct, ls, m, l, lk, lf, lv, ch, gr, rs, rfl, rfl, Y.1, Y.2.1, Y.2.2.1, by omega, G, C⟩
theorem i_vc_drop {k : Nat} {u : SX} {v : SY} (I : i_Rel k u v) (hk : k + 2 ≤ 1024) (v1 : Int32) : wpX_drop (fun r u' => wpY_drop (fun r' v' => r' = r ∧ i_Rel (k + 2) u' v') v v1) u v1 := by
  have I0 := I
  obtain ⟨h, hd, gs, cn, t, gt, gz, ct, ls, m, l, lk, lf, lv, ch, gr, rs, rfl, rfl, T, h4, rfl, s11, G, C⟩ := I
  rcases th_kind v1 with b | ⟨j, hj, rfl⟩
  · exact th_x_drop_b b (th_y_drop_b b ⟨rfl, I0⟩)
  · have hs := th_s9_mem h j hj
    refine th_x_drop_g hj (T j hj) (h4 j hj) s11 hs (fun z => ?_) (fun z => ?_)
    · exact th_y_drop_g hj (T j hj) (h4 j hj) s11 hs (fun _ => ⟨rfl, I0⟩) (fun z' => absurd z z')
    · refine th_y_drop_g hj (T j hj) (h4 j hj) s11 hs (fun z' => absurd z' z) (fun _ => ⟨rfl, ?_⟩)
      have Y := th_YH_dec hj (sz := nI (th_s9 h)) (hv := t) ⟨T, h4, rfl, by omega⟩ (by omega)
      have e := th_s9_dec (h := h) hj (by omega)
      exact ⟨th_dec h j, _, gs, cn, _, gt, gz, ct, ls, m, l, lk, lf, lv, ch, gr, rs, rfl, rfl, Y.1, Y.2.1, Y.2.2.1, by omega, G, C⟩
theorem i_vc_turn {k : Nat} {u : SX} {v : SY} (I : i_Rel k u v) (hk : k + 2 ≤ 1024) : wpX_turn (fun r u' => wpY_turn (fun r' v' => r' = r ∧ i_Rel (k + 2) u' v') v) u := by
  obtain ⟨h, hd, gs, cn, t, gt, gz, ct, ls, m, l, lk, lf, lv, ch, gr, rs, rfl, rfl, T, h4, rfl, s11, G, C⟩ := I
  refine th_x_turn (th_y_turn ⟨rfl, ?_⟩)
  refine ⟨th_th h, _, gs, cn, _, gt, gz, ct, ls, m, l, lk, lf, lv, ch, gr, rs, rfl, rfl, th_tn_th T, fun i hi => ?_, by rw [th_th_s9], by rw [th_th_s9]; exact s11, G, C⟩
  unfold th_th
  split
  · exact h4 _ (by omega)
  · exact h4 i hi
theorem i_vc_clear {k : Nat} {u : SX} {v : SY} (I : i_Rel k u v) (hk : k + 2 ≤ 1024) : wpX_clear (fun r u' => wpY_clear (fun r' v' => r' = r ∧ i_Rel (k + 2) u' v') v) u := by
  obtain ⟨h, hd, gs, cn, t, gt, gz, ct, ls, m, l, lk, lf, lv, ch, gr, rs, rfl, rfl, T, h4, rfl, s11, G, C⟩ := I
  refine th_x_clear (th_y_clear ⟨rfl, ?_⟩)
  exact ⟨fun _ => 0, _, gs, cn, _, gt, gz, ct, ls, m, l, lk, lf, lv, ch, gr, rs, rfl, rfl, fun i hi => th_hz0 9 i hi, fun _ _ => Nat.zero_le _, rfl, by decide, G, C⟩
theorem i_vc_size {k : Nat} {u : SX} {v : SY} (I : i_Rel k u v) (hk : k + 2 ≤ 1024) : wpX_size (fun r => wpY_size (fun r' => r' = r ∧ i_Rel (k + 2) u v) v) u := by
  have I0 := I
  obtain ⟨h, hd, gs, cn, t, gt, gz, ct, ls, m, l, lk, lf, lv, ch, gr, rs, rfl, rfl, T, h4, rfl, s11, G, C⟩ := I
  exact ⟨rfl, I0⟩
theorem i_vc_have {k : Nat} {u : SX} {v : SY} (I : i_Rel k u v) (hk : k + 2 ≤ 1024) (v1 : Int32) : wpX_have (fun r => wpY_have (fun r' => r' = r ∧ i_Rel (k + 2) u v) v v1) u v1 := by
  have I0 := I
  obtain ⟨h, hd, gs, cn, t, gt, gz, ct, ls, m, l, lk, lf, lv, ch, gr, rs, rfl, rfl, T, h4, rfl, s11, G, C⟩ := I
  rcases th_kind v1 with b | ⟨j, hj, rfl⟩
  · exact th_x_have_b b (th_y_have_b b ⟨rfl, I0⟩)
  · exact th_x_have_g hj (th_y_have_g hj ⟨rfl, I0⟩)
theorem i_vc_distance {k : Nat} {u : SX} {v : SY} (I : i_Rel k u v) (hk : k + 2 ≤ 1024) : wpX_distance (fun r => wpY_distance (fun r' v' => r' = r ∧ i_Rel (k + 2) u v') v) u := by
  obtain ⟨h, hd, gs, cn, t, gt, gz, ct, ls, m, l, lk, lf, lv, ch, gr, rs, rfl, rfl, T, h4, rfl, s11, G, C⟩ := I
  unfold wpX_distance
  refine th_x_least ⟨T, h4⟩ C (th_y_distance ⟨T, h4, rfl, by omega⟩ fun lk' lf' lv' ch' gr' => ⟨rfl, ?_⟩)
  exact ⟨h, _, gs, cn, t, gt, gz, ct, ls, m, l, lk', lf', lv', ch', gr', rs, rfl, rfl, T, h4, rfl, s11, G, C⟩
theorem i_vc_wanted {k : Nat} {u : SX} {v : SY} (I : i_Rel k u v) (hk : k + 2 ≤ 1024) : wpX_wanted (fun r => wpY_wanted (fun r' v' => r' = r ∧ i_Rel (k + 2) u v') v) u := by
  obtain ⟨h, hd, gs, cn, t, gt, gz, ct, ls, m, l, lk, lf, lv, ch, gr, rs, rfl, rfl, T, h4, rfl, s11, G, C⟩ := I
  unfold wpX_wanted wpY_wanted
  refine th_x_least ⟨T, h4⟩ C (th_x_kindsAt ⟨T, h4⟩ C ?_)
  refine th_y_distance ⟨T, h4, rfl, by omega⟩ fun lk1 lf1 lv1 ch1 gr1 => ?_
  refine th_y_wantedFrom ⟨T, h4, rfl, by omega⟩ s11 fun lk' lf' lv' ch' gr' => ⟨rfl, ?_⟩
  exact ⟨h, _, gs, cn, t, gt, gz, ct, ls, m, l, lk', lf', lv', ch', gr', rs, rfl, rfl, T, h4, rfl, s11, G, C⟩
theorem i_vc_hope {k : Nat} {u : SX} {v : SY} (I : i_Rel k u v) (hk : k + 2 ≤ 1024) : wpX_hope (fun r => wpY_hope (fun r' v' => r' = r ∧ i_Rel (k + 2) u v') v) u := by
  obtain ⟨h, hd, gs, cn, t, gt, gz, ct, ls, m, l, lk, lf, lv, ch, gr, rs, rfl, rfl, T, h4, rfl, s11, G, C⟩ := I
  unfold wpX_hope wpY_hope
  refine th_x_least ⟨T, h4⟩ C (th_x_hopeAt ⟨T, h4⟩ C ?_)
  refine th_y_distance ⟨T, h4, rfl, by omega⟩ fun lk1 lf1 lv1 ch1 gr1 => ?_
  refine th_y_hopeFrom ⟨T, h4, rfl, by omega⟩ s11 fun lk' lf' lv' ch' gr' => ⟨rfl, ?_⟩
  exact ⟨h, _, gs, cn, t, gt, gz, ct, ls, m, l, lk', lf', lv', ch', gr', rs, rfl, rfl, T, h4, rfl, s11, G, C⟩
theorem i_vc_best {k : Nat} {u : SX} {v : SY} (I : i_Rel k u v) (hk : k + 2 ≤ 1024) : wpX_best (fun r u' => wpY_best (fun r' v' => r' = r ∧ i_Rel (k + 2) u' v') v) u := by
  obtain ⟨h, hd, gs, cn, t, gt, gz, ct, ls, m, l, lk, lf, lv, ch, gr, rs, rfl, rfl, T, h4, rfl, s11, G, C⟩ := I
  refine th_x_best ⟨T, h4⟩ C (th_y_best ⟨T, h4, rfl, by omega⟩ fun lk' lf' lv' ch' gr' => ⟨rfl, ?_⟩)
  exact ⟨h, _, gs, cn, t, gt, gz, ct, ls, m, l, lk', lf', lv', ch', gr', rs, rfl, rfl, T, h4, rfl, s11, G, C⟩
theorem i_vc_groups {k : Nat} {u : SX} {v : SY} (I : i_Rel k u v) (hk : k + 2 ≤ 1024) : wpX_groups (fun r => wpY_groups (fun r' v' => r' = r ∧ i_Rel (k + 2) u v') v) u := by
  obtain ⟨h, hd, gs, cn, t, gt, gz, ct, ls, m, l, lk, lf, lv, ch, gr, rs, rfl, rfl, T, h4, rfl, s11, G, C⟩ := I
  refine th_x_groups ⟨T, h4⟩ G fun a A => th_y_groups ⟨T, h4, rfl, by omega⟩ fun b lk' lf' lv' ch' gr' B => ⟨by rw [th_AG_u A B], ?_⟩
  exact ⟨h, _, gs, cn, t, gt, gz, ct, ls, m, l, lk', lf', lv', ch', gr', rs, rfl, rfl, T, h4, rfl, s11, G, C⟩
theorem i_vc_ways {k : Nat} {u : SX} {v : SY} (I : i_Rel k u v) (hk : k + 2 ≤ 1024) : wpX_ways (fun r => wpY_ways (fun r' v' => r' = r ∧ i_Rel (k + 2) u v') v) u := by
  obtain ⟨h, hd, gs, cn, t, gt, gz, ct, ls, m, l, lk, lf, lv, ch, gr, rs, rfl, rfl, T, h4, rfl, s11, G, C⟩ := I
  refine th_x_ways ⟨T, h4⟩ G (th_y_ways ⟨T, h4, rfl, by omega⟩ s11 fun lk' lf' lv' ch' gr' => ⟨rfl, ?_⟩)
  exact ⟨h, _, gs, cn, t, gt, gz, ct, ls, m, l, lk', lf', lv', ch', gr', rs, rfl, rfl, T, h4, rfl, s11, G, C⟩
theorem i_vc_completions {k : Nat} {u : SX} {v : SY} (I : i_Rel k u v) (hk : k + 2 ≤ 1024) : wpX_completions (fun r => wpY_completions (fun r' v' => r' = r ∧ i_Rel (k + 2) u v') v) u := by
  obtain ⟨h, hd, gs, cn, t, gt, gz, ct, ls, m, l, lk, lf, lv, ch, gr, rs, rfl, rfl, T, h4, rfl, s11, G, C⟩ := I
  refine th_x_completions ⟨T, h4⟩ C s11 rfl (th_y_completions ⟨T, h4, rfl, by omega⟩ fun lk' lf' lv' ch' gr' rs' => ⟨rfl, ?_⟩)
  exact ⟨h, _, gs, cn, t, gt, gz, ct, ls, m, l, lk', lf', lv', ch', gr', rs', rfl, rfl, T, h4, rfl, s11, G, C⟩
end
