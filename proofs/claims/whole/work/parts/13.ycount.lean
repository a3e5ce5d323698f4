/-! the reference: groups, countWith -/
def th_F (h base : Nat → Nat) (q : Nat) : Prop := th_srt q = true ∧ ∀ k, k < 9 → base k + th_vec q k ≤ h k
theorem th_sz3 (q : Nat) : th_sz q ≤ 3 := by
  unfold th_sz th_one
  split <;> split <;> split <;> omega
def th_AG (h base : Nat → Nat) (m T : Nat) : Prop := m ≤ 3 ∧ (m = 0 ∨ ∃ q, q < 3375 ∧ th_F h base q ∧ m = th_sz q) ∧ ∀ q, q < T → th_F h base q → th_sz q ≤ m
theorem th_AG_s {h base : Nat → Nat} {m T T' : Nat} (A : th_AG h base m T) (k : ∀ q, T ≤ q → q < T' → th_F h base q → th_sz q ≤ m) : th_AG h base m T' := by
  refine ⟨A.1, A.2.1, fun q hq v => ?_⟩
  by_cases z : q < T
  · exact A.2.2 q z v
  · exact k q (by omega) hq v
theorem th_y_groups_loop {post : Int32 → SY → Prop} {h base : Nat → Nat} {sz : Int32} {hv rs : Nat → Int32} (h17 : ∀ k, k < 9 → h k ≤ 17)
    (H : ∀ (m : Nat) (lk' lf' lv' : Int32) (ch' gr' : Nat → Int32), th_AG h base m 3375 → post (nI m) (sz, lk', lf', lv', hv, ch', gr', rs)) :
    ∀ (n m l g0 g1 e : Nat) (lk lf lv : Int32) (ch gr : Nat → Int32), th_mu l g0 g1 e < n → th_SS h base h l g0 g1 e lk lf lv hv ch gr → th_AG h base m (th_T l g0 g1 e) → l ≤ m →
      wY_groups_18 post n (nI m) sz lk lf lv hv ch gr rs := by
  intro n
  induction n with
  | zero => intro m l g0 g1 e lk lf lv ch gr hm; omega
  | succ n ih =>
    intro m l g0 g1 e lk lf lv ch gr hm S A hlm
    have w := S.1
    have w1 := w.1
    have m3 := A.1
    refine br_f (by rw [S.2.2.2.1]; exact nI_pos (by omega)) ?_
    refine th_y_choose (Or.inr ⟨rfl, fun _ _ => rfl⟩) h17 S ?_ ?_ ?_ ?_
    · rintro rfl rfl gr'
      refine br_t rfl ?_
      obtain ⟨j, rfl⟩ : ∃ j, n = j + 1 := ⟨n - 1, by unfold th_mu at hm; omega⟩
      refine br_t (by decide) (H m _ _ _ _ _ (th_AG_s A ?_))
      intro q a b v
      have := th_end (q := q) (by unfold th_T at *; simpa using a) b v.1
      omega
    · rintro rfl hl lk' lf' lv' ch' gr' S'
      refine br_t rfl (ih m (l - 1) g0 g1 _ _ _ _ _ _ (by have := th_mu_up w hl; omega) S' (th_AG_s A ?_) (by omega))
      intro q a b v
      have := th_up w hl a b v.1
      omega
    · intro h13 hf gr' S'
      refine br_t rfl (ih m l g0 g1 (e + 1) _ _ _ _ _ (by have := th_mu_next w; omega) S' (th_AG_s A ?_) hlm)
      intro q a b v
      refine absurd (fun k hk => ?_) hf
      have := th_gap (base := base) w h13 a b k
      have := v.2 k hk
      omega
    · intro h13 lk' lf' ch' gr' S'
      have elv : lv = nI l := S'.2.2.2.2.1
      have go : ∀ m', m ≤ m' → l + 1 ≤ m' → th_AG h base m' (th_T l g0 g1 e) → wY_groups_52 post (wY_groups_18 post n) (nI m') sz lk' lf' lv hv ch' gr' rs := by
        intro m' h1 h2 A'
        refine pk_le 2 l (fun hl => ?_) (fun hl => ?_) rfl elv (by omega) (by omega)
        · refine th_y_give S' fun lk2 lf2 ch2 S2 => ih m' l g0 g1 (e + 1) _ _ _ _ _ (by have := th_mu_next w; omega) S2 (th_AG_s A' ?_) (by omega)
          intro q a b v
          have := th_sz3 q
          omega
        · refine th_y_deeper (by omega) S' fun lv2 gr2 S2 => ih m' (l + 1) _ _ e _ _ _ _ _ (by have := th_mu_deep (l := l) (g0 := g0) (g1 := g1) (e := e) (by omega); omega) S2 (th_AG_s A' ?_) h2
          intro q a b v
          have z := v.1
          rw [th_deep w h13 (by omega) a b] at z
          cases z
      refine br_f (by decide) (pk_le (l + 1) m (fun hle => go m (Nat.le_refl _) hle A) (fun hlt => ?_) (by rw [elv, nI_1]) rfl (by omega) (by omega))
      refine nm_r (e' := nI (l + 1)) (by rw [elv, nI_1]) (go (l + 1) (by omega) (Nat.le_refl _) ?_)
      obtain ⟨x1, x2, x3, x4, x5, x6⟩ := th_wq_s w h13
      refine ⟨by omega, Or.inr ⟨th_wq l g0 g1 e, x5, ⟨x1, fun k hk => ?_⟩, x2.symm⟩, fun q hq v => ?_⟩
      · rw [x6]; exact S'.2.2.2.1 k hk
      · have := A.2.2 q hq v; omega
/-- a search begins -/
theorem th_SS_0 {h base cap : Nat → Nat} {lk lf : Int32} {hv ch gr : Nat → Int32} (Y : th_YC h base lk lf hv ch) (hb : ∀ k, k < 9 → base k ≤ cap k) : th_SS h base cap 0 0 0 0 lk lf 0 hv ch (upd gr 0 (-1)) := by
  refine ⟨⟨by omega, by omega, by omega, by omega⟩, th_YC_ext (fun k hk => by simp [th_ch]) Y, fun k hk => ?_, rfl, by omega, by omega, ?_⟩
  · have := hb k hk
    simpa [th_ch] using this
  · rw [pk_us]; decide
theorem th_T0 : th_T 0 0 0 0 = 0 := rfl
/-- a hand, as the reference holds it -/
def th_YH (h : Nat → Nat) (sz : Int32) (hv : Nat → Int32) : Prop := (∀ k, k < 9 → hv k = nI (h k)) ∧ (∀ k, k < 9 → h k ≤ 4) ∧ sz = nI (th_s9 h) ∧ th_s9 h ≤ 12
theorem th_s9_0 : th_s9 (fun _ => 0) = 0 := rfl
theorem th_YC_0 {h : Nat → Nat} {sz : Int32} {hv ch : Nat → Int32} (Y : th_YH h sz hv) (hc : ∀ k, k < 9 → ch k = 0) : th_YC h (fun _ => 0) 0 sz hv ch := by
  refine ⟨fun k hk => ⟨Y.1 k hk, by have := Y.2.1 k hk; omega⟩, fun k hk => ⟨hc k hk, Nat.zero_le _⟩, ?_, ?_⟩
  · have : th_over (fun _ => 0) h = 0 := by
      have : th_over (fun _ => 0) h = th_s9 (fun _ => 0) := th_s9_ext fun k _ => Nat.zero_sub _
      rw [this, th_s9_0]
    rw [this]; rfl
  · have : th_over h (fun _ => 0) = th_s9 h := th_s9_ext fun k _ => Nat.sub_zero _
    rw [this]; exact Y.2.2.1
/-- begin and two of a kind -/
def th_pr (p k : Nat) : Nat := if k = p then 2 else 0
theorem th_y_pair {post : SY → Prop} {h : Nat → Nat} {sz lk lf lv : Int32} {hv ch gr rs : Nat → Int32} {p : Nat} (hp : p < 9) (Y : th_YH h sz hv)
    (H : ∀ (lk' lf' : Int32) (ch' : Nat → Int32), th_YC h (th_pr p) lk' lf' hv ch' → post (sz, lk', lf', lv, hv, ch', gr, rs)) :
    wpY_begin (fun u => match u with | (f_size, f_lacked, f_left, f_level, a_have, a_chosen, a_groups, a_rest) => wpY_take (fun u => match u with | (f_size, f_lacked, f_left, f_level, a_have, a_chosen, a_groups, a_rest) => wpY_take post (f_size, f_lacked, f_left, f_level, a_have, a_chosen, a_groups, a_rest) (nI p)) (f_size, f_lacked, f_left, f_level, a_have, a_chosen, a_groups, a_rest) (nI p)) (sz, lk, lf, lv, hv, ch, gr, rs) := by
  refine th_y_begin fun ch1 h1 => ?_
  refine th_y_take (c := fun _ => 0) hp (by decide) (th_YC_0 Y h1) fun lk2 lf2 ch2 Y2 => ?_
  refine th_y_take hp (by unfold th_inc; rw [if_pos rfl]; show 0 + 1 < 20; decide) Y2 fun lk3 lf3 ch3 Y3 => ?_
  refine H lk3 lf3 ch3 (th_YC_ext (fun k hk => ?_) Y3)
  unfold th_inc th_pr
  split <;> rfl
theorem th_y_groups {post : Int32 → SY → Prop} {h : Nat → Nat} {sz lk lf lv : Int32} {hv ch gr rs : Nat → Int32} (Y : th_YH h sz hv)
    (H : ∀ (m : Nat) (lk' lf' lv' : Int32) (ch' gr' : Nat → Int32), th_AG h (fun _ => 0) m 3375 → post (nI m) (sz, lk', lf', lv', hv, ch', gr', rs)) :
    wpY_groups post (sz, lk, lf, lv, hv, ch, gr, rs) := by
  unfold wpY_groups
  dsimp only
  refine th_y_begin fun ch1 h1 => ?_
  refine nm_r (e' := upd gr 0 (-1)) rfl ⟨th_mu 0 0 0 0 + 1, ?_⟩
  refine th_y_groups_loop (fun k hk => by have := Y.2.1 k hk; omega) H _ 0 0 0 0 0 _ _ 0 _ _ (by omega) (th_SS_0 (th_YC_0 Y h1) (fun k hk => by omega)) ⟨by omega, Or.inl rfl, ?_⟩ (by omega)
  intro q hq
  rw [th_T0] at hq
  omega
noncomputable def th_E (h base : Nat → Nat) (m q : Nat) : Bool := th_B (th_F h base q ∧ th_sz q = m)
theorem th_y_count_loop {post : Int32 → SY → Prop} {h base : Nat → Nat} {sz : Int32} {hv rs : Nat → Int32} {m : Nat} (m1 : 1 ≤ m) (m3 : m ≤ 3) (h17 : ∀ k, k < 9 → h k ≤ 17)
    (H : ∀ (lk' lf' lv' : Int32) (ch' gr' : Nat → Int32), post (nI (th_cnt (th_E h base m) 3375)) (sz, lk', lf', lv', hv, ch', gr', rs)) :
    ∀ (n l g0 g1 e : Nat) (lk lf lv : Int32) (ch gr : Nat → Int32), th_mu l g0 g1 e < n → th_SS h base h l g0 g1 e lk lf lv hv ch gr → l < m →
      wY_countWith_20 post (nI m) n (nI (th_cnt (th_E h base m) (th_T l g0 g1 e))) sz lk lf lv hv ch gr rs := by
  intro n
  induction n with
  | zero => intro l g0 g1 e lk lf lv ch gr hm; omega
  | succ n ih =>
    intro l g0 g1 e lk lf lv ch gr hm S hlm
    have w := S.1
    have w1 := w.1
    refine br_f (by rw [S.2.2.2.1]; exact nI_pos (by omega)) ?_
    refine th_y_choose (Or.inr ⟨rfl, fun _ _ => rfl⟩) h17 S ?_ ?_ ?_ ?_
    · rintro rfl rfl gr'
      refine br_t rfl ?_
      obtain ⟨j, rfl⟩ : ∃ j, n = j + 1 := ⟨n - 1, by unfold th_mu at hm; omega⟩
      have ee : th_cnt (th_E h base m) (th_T 0 g0 g1 14) = th_cnt (th_E h base m) 3375 := by
        refine (th_cnt_none (by unfold th_T; simp) fun q a b => th_B_f fun v => ?_).symm
        have := th_end (q := q) (by unfold th_T at *; simpa using a) b v.1.1
        have := v.2
        omega
      rw [ee]
      exact br_t (by decide) (H _ _ _ _ _)
    · rintro rfl hl lk' lf' lv' ch' gr' S'
      refine br_t rfl ?_
      have ee : th_cnt (th_E h base m) (th_T l g0 g1 14) = th_cnt (th_E h base m) (th_T (l - 1) g0 g1 (th_gl l g0 g1 + 1)) := by
        refine (th_cnt_none (Nat.le_of_lt (th_T_up w hl)) fun q a b => th_B_f fun v => ?_).symm
        have := th_up w hl a b v.1.1
        have := v.2
        omega
      rw [ee]
      exact ih (l - 1) g0 g1 _ _ _ _ _ _ (by have := th_mu_up w hl; omega) S' (by omega)
    · intro h13 hf gr' S'
      refine br_t rfl ?_
      have ee : th_cnt (th_E h base m) (th_T l g0 g1 e) = th_cnt (th_E h base m) (th_T l g0 g1 (e + 1)) := by
        refine (th_cnt_none (Nat.le_of_lt th_T_next) fun q a b => th_B_f fun v => ?_).symm
        refine absurd (fun k hk => ?_) hf
        have := th_gap (base := base) w h13 a b k
        have := v.1.2 k hk
        omega
      rw [ee]
      exact ih l g0 g1 (e + 1) _ _ _ _ _ (by have := th_mu_next w; omega) S' hlm
    · intro h13 lk' lf' ch' gr' S'
      have elv : lv = nI l := S'.2.2.2.2.1
      refine br_f (by decide) (pk_eq l (m - 1) (fun hl => ?_) (fun hl => ?_) elv (th_s1 (by omega)) (by omega) (by omega))
      · have ee : th_cnt (th_E h base m) (th_T l g0 g1 (e + 1)) = th_cnt (th_E h base m) (th_T l g0 g1 e) + 1 := by
          obtain ⟨x1, x2, x3, x4, x5, x6⟩ := th_wq_s w h13
          refine th_cnt_one (th_wq l g0 g1 e) x3 x4 (th_B_t ⟨⟨x1, fun k hk => ?_⟩, by omega⟩) fun q a b v => ?_
          · rw [x6]; exact S'.2.2.2.1 k hk
          · have v' := th_B_iff.mp v
            exact th_wq_u w h13 a b v'.1.1 (by have := v'.2; omega)
        refine nm_r (nI_1 _) (th_y_give S' fun lk2 lf2 ch2 S2 => ?_)
        have := ih l g0 g1 (e + 1) _ _ _ _ _ (by have := th_mu_next w; omega) S2 hlm
        rw [ee] at this
        exact this
      · have ee : th_cnt (th_E h base m) (th_T l g0 g1 e) = th_cnt (th_E h base m) (th_T (l + 1) (th_n0 l g0 e) (th_n1 l g1 e) e) := by
          refine (th_cnt_none (th_T_deep (by omega)) fun q a b => th_B_f fun v => ?_).symm
          have z := v.1.1
          rw [th_deep w h13 (by omega) a b] at z
          cases z
        rw [ee]
        exact th_y_deeper (by omega) S' fun lv2 gr2 S2 => ih (l + 1) _ _ e _ _ _ _ _ (by have := th_mu_deep (l := l) (g0 := g0) (g1 := g1) (e := e) (by omega); omega) S2 (by omega)
theorem th_one0 {x : Nat} (h : th_one x = 0) : 14 ≤ x := by
  unfold th_one at h
  split at h <;> omega
theorem th_sz0 {q : Nat} (hq : q < 3375) (z : th_sz q = 0) : q = 3374 := by
  unfold th_sz at z
  have a := th_one0 (x := th_a q) (by omega)
  have b := th_one0 (x := th_b q) (by omega)
  have c := th_one0 (x := th_c q) (by omega)
  unfold th_a th_b th_c at *
  omega
theorem th_y_countWith {post : Int32 → SY → Prop} {h base : Nat → Nat} {sz lk lf lv : Int32} {hv ch gr rs : Nat → Int32} {m : Nat} (m3 : m ≤ 3) (h17 : ∀ k, k < 9 → h k ≤ 17) (Y : th_YC h base lk lf hv ch) (hb : ∀ k, k < 9 → base k ≤ h k)
    (H : ∀ (lk' lf' lv' : Int32) (ch' gr' : Nat → Int32), post (nI (th_cnt (th_E h base m) 3375)) (sz, lk', lf', lv', hv, ch', gr', rs)) :
    wpY_countWith post (sz, lk, lf, lv, hv, ch, gr, rs) (nI m) := by
  refine pk_eq m 0 (fun z => ?_) (fun z => ?_)
  · subst z
    have e : th_cnt (th_E h base 0) 3375 = th_cnt (th_E h base 0) 0 + 1 := by
      refine th_cnt_one 3374 (by omega) (by omega) (th_B_t ⟨⟨by decide, fun k hk => ?_⟩, by decide⟩) fun q a b v => th_sz0 b (th_B_iff.mp v).2
      have z : th_vec 3374 k = 0 := by simp [th_vec, th_a, th_b, th_c, th_G]
      rw [z]; exact hb k hk
    have := H lk lf lv ch gr
    rw [e] at this
    exact this
  · refine nm_r (e' := upd gr 0 (-1)) rfl ⟨th_mu 0 0 0 0 + 1, ?_⟩
    exact th_y_count_loop (by omega) m3 h17 H _ 0 0 0 0 _ _ 0 _ _ (by omega) (th_SS_0 Y hb) (by omega)
