/-- the hand of set q and a pair of kind p -/
def th_cv (q p k : Nat) : Nat := th_vec q k + (if k = p then 2 else 0)
def th_ok (q p : Nat) : Bool := (List.range 9).all fun k => Nat.ble (th_cv q p k) 4
theorem th_ok_iff {q p : Nat} : th_ok q p = true ↔ ∀ k, k < 9 → th_cv q p k ≤ 4 := by
  unfold th_ok
  simp only [List.all_eq_true, List.mem_range, Nat.ble_eq]
theorem th_pair_s9 : ∀ p, p < 9 → th_s9 (fun k => if k = p then 2 else 0) = 2 := by decide +kernel
theorem th_cv_s9 {q p : Nat} (h : q < 3375) (hp : p < 9) : th_s9 (th_cv q p) = 3 * th_sz q + 2 := by
  have e := th_s9_add (th_vec q) (fun k => if k = p then 2 else 0)
  rw [th_pair_s9 p hp, th_vec_s9 h] at e
  exact e
/-- a hand's number, and its digits -/
def th_hp (v : Nat → Nat) : Nat → Nat
  | 0 => 0
  | n + 1 => th_hp v n * 5 + v n
def th_code (v : Nat → Nat) : Nat := th_hp v 9
def th_dg (x k : Nat) : Nat := x / 5 ^ (8 - k) % 5
theorem th_dg_le (x k : Nat) : th_dg x k ≤ 4 := by
  have := Nat.mod_lt (x / 5 ^ (8 - k)) (show 0 < 5 by decide)
  unfold th_dg
  omega
theorem th_hp_lt {v : Nat → Nat} : ∀ n, (∀ k, k < n → v k ≤ 4) → th_hp v n < 5 ^ n
  | 0, _ => by show (0 : Nat) < 5 ^ 0; decide
  | n + 1, h => by
    have ih := th_hp_lt n (fun k hk => h k (by omega))
    have := h n (by omega)
    show th_hp v n * 5 + v n < 5 ^ (n + 1)
    rw [Nat.pow_succ]
    omega
theorem th_code_lt {v : Nat → Nat} (h : ∀ k, k < 9 → v k ≤ 4) : th_code v < 1953125 := th_hp_lt 9 h
theorem th_hp_div {v : Nat → Nat} {n : Nat} : ∀ d, (∀ k, k < n + d → v k ≤ 4) → th_hp v (n + d) / 5 ^ d = th_hp v n
  | 0, _ => by rw [Nat.pow_zero, Nat.div_one]; rfl
  | d + 1, h => by
    have ih := th_hp_div (n := n) d (fun k hk => h k (by omega))
    have z := h (n + d) (by omega)
    rw [Nat.pow_succ, Nat.mul_comm, ← Nat.div_div_eq_div_mul]
    have e : th_hp v (n + (d + 1)) / 5 = th_hp v (n + d) := by
      show (th_hp v (n + d) * 5 + v (n + d)) / 5 = _
      omega
    rw [e, ih]
theorem th_dg_code {v : Nat → Nat} (h : ∀ k, k < 9 → v k ≤ 4) : ∀ k, k < 9 → th_dg (th_code v) k = v k := by
  intro k hk
  have e := th_hp_div (v := v) (n := k + 1) (8 - k) (fun j hj => h j (by omega))
  have z := h k hk
  rw [show k + 1 + (8 - k) = 9 by omega] at e
  unfold th_dg th_code
  rw [e]
  show (th_hp v k * 5 + v k) % 5 = v k
  omega
theorem th_hp_ext {v w : Nat → Nat} : ∀ n, (∀ k, k < n → v k = w k) → th_hp v n = th_hp w n
  | 0, _ => rfl
  | n + 1, h => by
    show th_hp v n * 5 + v n = th_hp w n * 5 + w n
    rw [th_hp_ext n (fun k hk => h k (by omega)), h n (by omega)]
theorem th_code_ext {v w : Nat → Nat} (h : ∀ k, k < 9 → v k = w k) : th_code v = th_code w := th_hp_ext 9 h
theorem th_code_inj {v w : Nat → Nat} (hv : ∀ k, k < 9 → v k ≤ 4) (hw : ∀ k, k < 9 → w k ≤ 4) (e : th_code v = th_code w) : ∀ k, k < 9 → v k = w k := by
  intro k hk
  rw [← th_dg_code hv k hk, ← th_dg_code hw k hk, e]
/-- complete hands, by their numbers -/
def th_val (q p : Nat) : Bool := th_srt q && decide (th_sz q = 3) && th_ok q p
def th_CH (x : Nat) : Prop := ∃ q p, q < 3375 ∧ p < 9 ∧ th_val q p = true ∧ x = th_code (th_cv q p)
theorem th_val_iff {q p : Nat} : th_val q p = true ↔ th_srt q = true ∧ th_sz q = 3 ∧ ∀ k, k < 9 → th_cv q p k ≤ 4 := by
  unfold th_val
  rw [Bool.and_eq_true, Bool.and_eq_true, decide_eq_true_eq, th_ok_iff, and_assoc]
theorem th_CH_s9 {x : Nat} (h : th_CH x) : th_s9 (th_dg x) = 11 := by
  obtain ⟨q, p, hq, hp, hv, rfl⟩ := h
  obtain ⟨_, h3, h4⟩ := th_val_iff.mp hv
  rw [th_s9_ext (th_dg_code h4), th_cv_s9 hq hp, h3]
def th_CL : List Nat := (List.range 3375).flatMap fun q => ((List.range 9).filter (th_val q)).map fun p => th_code (th_cv q p)
theorem th_CL_iff {x : Nat} : x ∈ th_CL ↔ th_CH x := by
  unfold th_CL th_CH
  simp only [List.mem_flatMap, List.mem_map, List.mem_filter, List.mem_range]
  constructor
  · rintro ⟨q, hq, p, ⟨hp, hv⟩, e⟩
    exact ⟨q, p, hq, hp, hv, e.symm⟩
  · rintro ⟨q, p, hq, hp, hv, e⟩
    exact ⟨q, hq, p, ⟨hp, hv⟩, e.symm⟩
theorem th_CH_ne : th_CH (th_code (th_cv 17 3)) := ⟨17, 3, by decide, by decide, by decide +kernel, rfl⟩
/-- the least over a list, 11 at most -/
def th_ml (f : Nat → Nat) : List Nat → Nat
  | [] => 11
  | x :: l => if f x < th_ml f l then f x else th_ml f l
theorem th_ml_le {f : Nat → Nat} : ∀ {l : List Nat} {x : Nat}, x ∈ l → th_ml f l ≤ f x
  | y :: l, x, h => by
    unfold th_ml
    cases h with
    | head => split <;> omega
    | tail _ h => have := th_ml_le (f := f) h
                  split <;> omega
theorem th_ml_ex {f : Nat → Nat} : ∀ (l : List Nat), th_ml f l = 11 ∨ ∃ x, x ∈ l ∧ f x = th_ml f l
  | [] => Or.inl rfl
  | y :: l => by
    unfold th_ml
    split
    · exact Or.inr ⟨y, List.mem_cons_self, rfl⟩
    · rcases th_ml_ex (f := f) l with e | ⟨x, a, b⟩
      · exact Or.inl e
      · exact Or.inr ⟨x, List.mem_cons_of_mem _ a, b⟩
theorem th_ml_11 (f : Nat → Nat) : ∀ (l : List Nat), th_ml f l ≤ 11
  | [] => Nat.le_refl 11
  | y :: l => by
    have := th_ml_11 f l
    unfold th_ml
    split <;> omega
def th_miss (h : Nat → Nat) (x : Nat) : Nat := th_over (th_dg x) h
theorem th_miss_11 {h : Nat → Nat} {x : Nat} (hx : th_CH x) : th_miss h x ≤ 11 := by
  have := th_CH_s9 hx
  have : th_miss h x ≤ th_s9 (th_dg x) := th_s9_le fun k _ => Nat.sub_le _ _
  omega
def th_dist (h : Nat → Nat) : Nat := th_ml (th_miss h) th_CL
theorem th_dist_le {h : Nat → Nat} {x : Nat} (hx : th_CH x) : th_dist h ≤ th_miss h x := th_ml_le (th_CL_iff.mpr hx)
theorem th_dist_ex (h : Nat → Nat) : ∃ x, th_CH x ∧ th_miss h x = th_dist h := by
  rcases th_ml_ex (f := th_miss h) th_CL with e | ⟨x, a, b⟩
  · refine ⟨_, th_CH_ne, ?_⟩
    have h1 := th_miss_11 (h := h) th_CH_ne
    have h2 := th_dist_le (h := h) th_CH_ne
    unfold th_dist at *
    omega
  · exact ⟨x, th_CL_iff.mp a, b⟩
theorem th_dist_11 (h : Nat → Nat) : th_dist h ≤ 11 := th_ml_11 _ _
theorem th_dist_uni {h : Nat → Nat} {r : Nat} (h1 : ∃ x, th_CH x ∧ th_miss h x = r) (h2 : ∀ x, th_CH x → r ≤ th_miss h x) : r = th_dist h := by
  obtain ⟨x, a, b⟩ := h1
  obtain ⟨y, c, d⟩ := th_dist_ex h
  have := th_dist_le (h := h) a
  have := h2 y c
  omega
theorem th_dist_ge (h : Nat → Nat) : 11 - th_s9 h ≤ th_dist h := by
  obtain ⟨x, a, b⟩ := th_dist_ex h
  have := th_over_bal (th_dg x) h
  have := th_CH_s9 a
  unfold th_miss at b
  omega
theorem th_miss_ext {h h' : Nat → Nat} (e : ∀ k, k < 9 → h k = h' k) (x : Nat) : th_miss h x = th_miss h' x := by
  unfold th_miss th_over
  exact th_s9_ext fun k hk => by rw [e k hk]
theorem th_dist_ext {h h' : Nat → Nat} (e : ∀ k, k < 9 → h k = h' k) : th_dist h = th_dist h' := by
  refine th_dist_uni ?_ ?_
  · obtain ⟨x, a, b⟩ := th_dist_ex h
    exact ⟨x, a, by rw [← b, th_miss_ext e]⟩
  · intro x hx
    rw [← th_miss_ext e]
    exact th_dist_le hx
/-- the wanted kinds -/
def th_want (h : Nat → Nat) (k : Nat) : Bool := th_CL.any fun x => decide (th_miss h x = th_dist h) && decide (h k < th_dg x k)
theorem th_want_iff {h : Nat → Nat} {k : Nat} : th_want h k = true ↔ ∃ x, th_CH x ∧ th_miss h x = th_dist h ∧ h k < th_dg x k := by
  unfold th_want
  simp only [List.any_eq_true, Bool.and_eq_true, decide_eq_true_eq]
  constructor
  · rintro ⟨x, a, b, c⟩
    exact ⟨x, th_CL_iff.mp a, b, c⟩
  · rintro ⟨x, a, b, c⟩
    exact ⟨x, th_CL_iff.mpr a, b, c⟩
theorem th_want_4 {h : Nat → Nat} {k : Nat} (w : th_want h k = true) : h k < 4 := by
  obtain ⟨x, _, _, c⟩ := th_want_iff.mp w
  have := th_dg_le x k
  omega
theorem th_miss_put (h : Nat → Nat) (x : Nat) {k : Nat} (hk : k < 9) :
    th_miss (th_put h k (h k + 1)) x + (if h k < th_dg x k then 1 else 0) = th_miss h x := by
  have e := th_s9_put (fun j y => th_dg x j - y) h (h k + 1) k hk
  unfold th_miss th_over
  split <;> omega
/-- a kind is wanted just where one tile of it more brings the hand nearer -/
theorem th_near {h : Nat → Nat} {k : Nat} (hk : k < 9) : th_dist (th_put h k (h k + 1)) < th_dist h ↔ th_want h k = true := by
  rw [th_want_iff]
  constructor
  · intro l
    obtain ⟨x, a, b⟩ := th_dist_ex (th_put h k (h k + 1))
    have e := th_miss_put h x hk
    have d := th_dist_le (h := h) a
    refine ⟨x, a, ?_, ?_⟩
    · split at e <;> omega
    · split at e
      · assumption
      · omega
  · rintro ⟨x, a, b, c⟩
    have e := th_miss_put h x hk
    have d := th_dist_le (h := th_put h k (h k + 1)) a
    rw [if_pos c] at e
    omega
def th_hope (h : Nat → Nat) : Nat := th_s9 fun k => if th_want h k then 4 - h k else 0
theorem th_hope_36 (h : Nat → Nat) : th_hope h ≤ 36 := by
  have := th_s9_le (f := fun k => if th_want h k then 4 - h k else 0) (g := fun _ => 4) (fun k _ => by split <;> omega)
  exact this
/-- the set of those k below n with P k, as the programs make it -/
def th_mk (P : Nat → Bool) : Nat → Int32
  | 0 => 0
  | n + 1 => if P n then th_mk P n ||| ((1 : Int32) <<< (nI n &&& 31)) else th_mk P n
