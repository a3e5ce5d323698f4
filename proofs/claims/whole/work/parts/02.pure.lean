def th_s9 (f : Nat → Nat) : Nat := f 0 + f 1 + f 2 + f 3 + f 4 + f 5 + f 6 + f 7 + f 8
theorem th_c9 {P : Nat → Prop} (h0 : P 0) (h1 : P 1) (h2 : P 2) (h3 : P 3) (h4 : P 4) (h5 : P 5) (h6 : P 6) (h7 : P 7) (h8 : P 8) : ∀ k, k < 9 → P k
  | 0, _ => h0
  | 1, _ => h1
  | 2, _ => h2
  | 3, _ => h3
  | 4, _ => h4
  | 5, _ => h5
  | 6, _ => h6
  | 7, _ => h7
  | 8, _ => h8
  | k + 9, h => absurd h (by omega)
theorem th_all9 {P : Nat → Prop} (h : ∀ k, k < 9 → P k) : P 0 ∧ P 1 ∧ P 2 ∧ P 3 ∧ P 4 ∧ P 5 ∧ P 6 ∧ P 7 ∧ P 8 :=
  ⟨h 0 (by decide), h 1 (by decide), h 2 (by decide), h 3 (by decide), h 4 (by decide), h 5 (by decide), h 6 (by decide), h 7 (by decide), h 8 (by decide)⟩
theorem th_s9_ext {f g : Nat → Nat} (h : ∀ k, k < 9 → f k = g k) : th_s9 f = th_s9 g := by
  have t := th_all9 h
  unfold th_s9
  omega
theorem th_s9_le {f g : Nat → Nat} (h : ∀ k, k < 9 → f k ≤ g k) : th_s9 f ≤ th_s9 g := by
  have t := th_all9 h
  unfold th_s9
  omega
theorem th_s9_add (f g : Nat → Nat) : th_s9 (fun k => f k + g k) = th_s9 f + th_s9 g := by
  unfold th_s9
  dsimp only
  omega
theorem th_s9_pin {f g : Nat → Nat} (h : ∀ k, k < 9 → f k ≤ g k) (e : th_s9 g ≤ th_s9 f) : ∀ k, k < 9 → f k = g k := by
  have t := th_all9 h
  unfold th_s9 at e
  exact th_c9 (P := fun k => f k = g k) (by omega) (by omega) (by omega) (by omega) (by omega) (by omega) (by omega) (by omega) (by omega)
theorem th_s9_mem (f : Nat → Nat) : ∀ k, k < 9 → f k ≤ th_s9 f := by
  unfold th_s9
  exact th_c9 (P := fun k => f k ≤ _) (by omega) (by omega) (by omega) (by omega) (by omega) (by omega) (by omega) (by omega) (by omega)
/-- one cell changed -/
def th_put (c : Nat → Nat) (j x : Nat) : Nat → Nat := fun k => if k = j then x else c k
theorem th_put_s {c : Nat → Nat} {j x : Nat} : th_put c j x j = x := by simp [th_put]
theorem th_put_n {c : Nat → Nat} {j x k : Nat} (h : k ≠ j) : th_put c j x k = c k := by simp [th_put, h]
theorem th_s9_put (F : Nat → Nat → Nat) (c : Nat → Nat) (x : Nat) : ∀ j, j < 9 →
    th_s9 (fun k => F k (th_put c j x k)) + F j (c j) = th_s9 (fun k => F k (c k)) + F j x := by
  refine th_c9 ?_ ?_ ?_ ?_ ?_ ?_ ?_ ?_ ?_ <;> simp [th_s9, th_put] <;> omega
/-- what c has beyond h; what h has beyond c -/
def th_over (c h : Nat → Nat) : Nat := th_s9 (fun k => c k - h k)
theorem th_over_bal (c h : Nat → Nat) : th_over c h + th_s9 h = th_over h c + th_s9 c := by
  unfold th_over
  rw [← th_s9_add, ← th_s9_add]
  exact th_s9_ext fun k _ => by omega
theorem th_over_0 {c h : Nat → Nat} : th_over h c = 0 ↔ ∀ k, k < 9 → h k ≤ c k := by
  unfold th_over
  constructor
  · intro e k hk
    have := th_s9_mem (fun k => h k - c k) k hk
    omega
  · intro e
    have : th_s9 (fun k => h k - c k) = th_s9 (fun _ => 0) := th_s9_ext fun k hk => by
      have := e k hk
      omega
    rw [this]; rfl
theorem th_over_mono {c c' h : Nat → Nat} (e : ∀ k, k < 9 → c k ≤ c' k) : th_over c h ≤ th_over c' h :=
  th_s9_le fun k hk => Nat.sub_le_sub_right (e k hk) _
/-- the tiles of a group: 0 to 8 three of a kind, 9 to 13 runs, 14 none -/
def th_G (g k : Nat) : Nat :=
  if g < 9 then (if k = g then 3 else 0) else if g < 14 then (if g ≤ k + 9 ∧ k + 9 < g + 3 then 1 else 0) else 0
def th_tile (g i : Nat) : Nat := if g < 9 then g else g - 9 + i
def th_one (g : Nat) : Nat := if g < 14 then 1 else 0
theorem th_G_s9 : ∀ g, g < 15 → th_s9 (th_G g) = 3 * th_one g := by decide +kernel
theorem th_G_tile : ∀ g, g < 14 → ∀ k, k < 9 → th_G g k = (if k = th_tile g 0 then 1 else 0) + (if k = th_tile g 1 then 1 else 0) + (if k = th_tile g 2 then 1 else 0) := by decide +kernel
theorem th_tile_lt : ∀ g, g < 14 → ∀ i, i < 3 → th_tile g i < 9 := by decide +kernel
/-- a set of up to three groups is a number q below 3375 = 15^3 with digits that don't fall -/
def th_a (q : Nat) : Nat := q / 225
def th_b (q : Nat) : Nat := q / 15 % 15
def th_c (q : Nat) : Nat := q % 15
def th_srt (q : Nat) : Bool := decide (th_a q ≤ th_b q) && decide (th_b q ≤ th_c q)
def th_vec (q k : Nat) : Nat := th_G (th_a q) k + th_G (th_b q) k + th_G (th_c q) k
def th_sz (q : Nat) : Nat := th_one (th_a q) + th_one (th_b q) + th_one (th_c q)
theorem th_srt_iff {q : Nat} : th_srt q = true ↔ q / 225 ≤ q / 15 % 15 ∧ q / 15 % 15 ≤ q % 15 := by
  unfold th_srt
  rw [Bool.and_eq_true, decide_eq_true_eq, decide_eq_true_eq]
  exact Iff.rfl
theorem th_srt_no {q : Nat} : th_srt q = false ↔ ¬ (q / 225 ≤ q / 15 % 15 ∧ q / 15 % 15 ≤ q % 15) := by
  rw [← th_srt_iff]; simp
theorem th_vec_s9 {q : Nat} (h : q < 3375) : th_s9 (th_vec q) = 3 * th_sz q := by
  have e1 := th_G_s9 (th_a q) (by unfold th_a; omega)
  have e2 := th_G_s9 (th_b q) (by unfold th_b; omega)
  have e3 := th_G_s9 (th_c q) (by unfold th_c; omega)
  unfold th_sz
  unfold th_s9 th_vec at *
  omega
/-- how many below n -/
def th_cnt (P : Nat → Bool) : Nat → Nat
  | 0 => 0
  | n + 1 => th_cnt P n + (if P n then 1 else 0)
theorem th_cnt_gap {P : Nat → Bool} {T : Nat} : ∀ d, (∀ q, T ≤ q → q < T + d → P q = false) → th_cnt P (T + d) = th_cnt P T
  | 0, _ => rfl
  | d + 1, h => by
    have e := th_cnt_gap d (fun q a b => h q a (by omega))
    have z := h (T + d) (by omega) (by omega)
    show th_cnt P (T + d) + (if P (T + d) then 1 else 0) = _
    rw [e, z]; simp
theorem th_cnt_none {P : Nat → Bool} {T T' : Nat} (hT : T ≤ T') (h : ∀ q, T ≤ q → q < T' → P q = false) : th_cnt P T' = th_cnt P T := by
  obtain ⟨d, rfl⟩ := Nat.exists_eq_add_of_le hT
  exact th_cnt_gap d h
theorem th_cnt_one {P : Nat → Bool} {T T' : Nat} (q0 : Nat) (h0 : T ≤ q0) (h1 : q0 < T') (hp : P q0 = true)
    (h : ∀ q, T ≤ q → q < T' → P q = true → q = q0) : th_cnt P T' = th_cnt P T + 1 := by
  have e1 : th_cnt P q0 = th_cnt P T := th_cnt_none h0 (fun q a b => by
    cases z : P q with
    | false => rfl
    | true => have := h q a (by omega) z; omega)
  have e2 : th_cnt P T' = th_cnt P (q0 + 1) := th_cnt_none h1 (fun q a b => by
    cases z : P q with
    | false => rfl
    | true => have := h q (by omega) b z; omega)
  rw [e2, ← e1]
  show th_cnt P q0 + (if P q0 then 1 else 0) = _
  rw [hp]; simp
theorem th_cnt_ext {P Q : Nat → Bool} : ∀ n, (∀ q, q < n → P q = Q q) → th_cnt P n = th_cnt Q n
  | 0, _ => rfl
  | n + 1, h => by
    show th_cnt P n + (if P n then 1 else 0) = th_cnt Q n + (if Q n then 1 else 0)
    rw [th_cnt_ext n (fun q a => h q (by omega)), h n (by omega)]
theorem th_cnt_le (P : Nat → Bool) : ∀ n, th_cnt P n ≤ n
  | 0 => Nat.le_refl 0
  | n + 1 => by
    have := th_cnt_le P n
    show th_cnt P n + (if P n then 1 else 0) ≤ n + 1
    split <;> omega
theorem th_cnt_mono (P : Nat → Bool) {m : Nat} : ∀ n, m ≤ n → th_cnt P m ≤ th_cnt P n
  | 0, h => by have : m = 0 := by omega
               subst this; exact Nat.le_refl _
  | n + 1, h => by
    by_cases e : m = n + 1
    · subst e; exact Nat.le_refl _
    · have := th_cnt_mono P (m := m) n (by omega)
      show _ ≤ th_cnt P n + (if P n then 1 else 0)
      omega
/-- the place of set q in the list of sets -/
def th_nb (q : Nat) : Nat := th_cnt th_srt q
theorem th_nb_all : th_nb 3375 = 680 := by decide +kernel
theorem th_nb_s {q : Nat} (h : th_srt q = true) : th_nb (q + 1) = th_nb q + 1 := by
  show th_cnt th_srt q + (if th_srt q then 1 else 0) = th_cnt th_srt q + 1
  rw [h]; simp
theorem th_nb_lt {q : Nat} (hq : q < 3375) (h : th_srt q = true) : th_nb q < 680 := by
  have e := th_cnt_mono th_srt 3375 (m := q + 1) hq
  have := th_nb_s h
  have := th_nb_all
  unfold th_nb at *
  omega
theorem th_nb_ex : ∀ T s, s < th_nb T → ∃ q, q < T ∧ th_srt q = true ∧ th_nb q = s
  | 0, s, h => absurd h (by show ¬ s < 0; omega)
  | T + 1, s, h => by
    by_cases e : s < th_nb T
    · obtain ⟨q, a, b, c⟩ := th_nb_ex T s e
      exact ⟨q, by omega, b, c⟩
    · cases z : th_srt T with
      | true =>
        have := th_nb_s z
        exact ⟨T, by omega, z, by omega⟩
      | false =>
        have : th_nb (T + 1) = th_nb T := by
          show th_cnt th_srt T + (if th_srt T then 1 else 0) = th_cnt th_srt T
          rw [z]; simp
        omega
/-- a count over the list of sets is a count over the numbers -/
theorem th_cnt_nb (R : Nat → Bool) : ∀ T, th_cnt R (th_nb T) = th_cnt (fun q => th_srt q && R (th_nb q)) T
  | 0 => rfl
  | T + 1 => by
    have ih := th_cnt_nb R T
    show _ = th_cnt (fun q => th_srt q && R (th_nb q)) T + (if (th_srt T && R (th_nb T)) then 1 else 0)
    cases z : th_srt T with
    | true =>
      rw [th_nb_s z, ← ih]
      show th_cnt R (th_nb T) + (if R (th_nb T) then 1 else 0) = _
      simp
    | false =>
      have : th_nb (T + 1) = th_nb T := by
        show th_cnt th_srt T + (if th_srt T then 1 else 0) = th_cnt th_srt T
        rw [z]; simp
      rw [this, ih]; simp
theorem th_nb_no {q : Nat} (h : th_srt q = false) : th_nb (q + 1) = th_nb q := by
  show th_cnt th_srt q + (if th_srt q then 1 else 0) = th_cnt th_srt q
  rw [h]; simp
theorem th_nb_mono {q q' : Nat} (h : th_srt q = true) (l : q < q') : th_nb q < th_nb q' := by
  have e := th_cnt_mono th_srt q' (m := q + 1) l
  have := th_nb_s h
  unfold th_nb at *
  omega
theorem th_nb_inj {q q' : Nat} (h : th_srt q = true) (h' : th_srt q' = true) (e : th_nb q = th_nb q') : q = q' := by
  rcases Nat.lt_trichotomy q q' with l | l | l
  · have := th_nb_mono h l; omega
  · exact l
  · have := th_nb_mono h' l; omega
theorem th_nb_gap {T T' : Nat} (hT : T ≤ T') (h : ∀ q, T ≤ q → q < T' → th_srt q = false) : th_nb T' = th_nb T := th_cnt_none hT h
/-- the set at a place -/
noncomputable def th_qi (i : Nat) : Nat := Classical.epsilon fun q => q < 3375 ∧ th_srt q = true ∧ th_nb q = i
theorem th_qi_s {i : Nat} (hi : i < 680) : th_qi i < 3375 ∧ th_srt (th_qi i) = true ∧ th_nb (th_qi i) = i :=
  Classical.epsilon_spec (p := fun q => q < 3375 ∧ th_srt q = true ∧ th_nb q = i) (th_nb_ex 3375 i (by rw [th_nb_all]; exact hi))
theorem th_qi_nb {q : Nat} (hq : q < 3375) (h : th_srt q = true) : th_qi (th_nb q) = q := by
  have t := th_qi_s (th_nb_lt hq h)
  exact th_nb_inj t.2.1 h t.2.2
/-- a sum of the first -/
def th_ps (f : Nat → Nat) : Nat → Nat
  | 0 => 0
  | n + 1 => th_ps f n + f n
theorem th_ps9 (f : Nat → Nat) : th_ps f 9 = th_s9 f := by
  simp [th_ps, th_s9]
theorem th_cnt_or {P Q R : Nat → Bool} : ∀ n, (∀ q, q < n → R q = (P q || Q q)) → (∀ q, q < n → P q = true → Q q = false) → th_cnt R n = th_cnt P n + th_cnt Q n
  | 0, _, _ => rfl
  | n + 1, h, d => by
    have ih := th_cnt_or n (fun q a => h q (by omega)) (fun q a => d q (by omega))
    have e := h n (by omega)
    have z := d n (by omega)
    show th_cnt R n + (if R n then 1 else 0) = th_cnt P n + (if P n then 1 else 0) + (th_cnt Q n + (if Q n then 1 else 0))
    cases hp : P n with
    | true => rw [z hp, hp] at e; rw [z hp, e]; simp; omega
    | false => rw [hp] at e; cases hq : Q n with
      | true => rw [hq] at e; rw [e]; simp; omega
      | false => rw [hq] at e; rw [e]; simp; omega
