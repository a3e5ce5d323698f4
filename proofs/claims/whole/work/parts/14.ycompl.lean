/-! the reference: divides, counts, completeWith -/
theorem th_b01 {b : Bool} : (if b then (1 : Int32) else 0) = 0 ↔ b = false := by
  cases b <;> decide
theorem th_sub2 (x : Int32) (a b : Nat) : x - nI a - nI b = x - nI (b + a) := by
  rw [← nI_add]; grind
theorem th_sub0 (x : Int32) : x - nI 0 = x := by
  rw [nI_0]; grind
/-- inner loop of divides: the runs are taken -/
theorem th_y_div96 {post : Int32 → SY → Prop} {J : Int32 → (Nat → Int32) → (Nat → Int32) → (Nat → Int32) → (Nat → Int32) → Prop} {sz lk lf lv : Int32} {hv ch gr rs : Nat → Int32} {k d : Nat} (hk : k < 9) (hd : d < 3) (hkd : d = 0 ∨ k ≤ 4)
    (H : ∀ rs' : Nat → Int32, rs' (k + 1) = rs (k + 1) - nI d → rs' (k + 2) = rs (k + 2) - nI d → (∀ j, k + 3 ≤ j → rs' j = rs j) → J (nI (k + 1)) hv ch gr rs') :
    ∃ n96, wY_divides_96 post J (nI k) (nI d) sz lk lf lv n96 0 hv ch gr rs := by
  by_cases z : d = 0
  · subst z
    refine ⟨1, br_f (by decide) (br_t (by decide) (nm_r (nI_1 k) (H rs ?_ ?_ fun j _ => rfl)))⟩
    · rw [th_sub0]
    · rw [th_sub0]
  · have hk4 : k ≤ 4 := by omega
    have dp : ¬ nI d ≤ 0 := nI_nle (by omega) (by omega)
    have step : ∀ (n i : Nat) (rs : Nat → Int32), i < 3 → wY_divides_96 post J (nI k) (nI d) sz lk lf lv n (nI (i + 1)) hv ch gr (upd rs (k + i) (rs (k + i) - nI d)) →
        wY_divides_96 post J (nI k) (nI d) sz lk lf lv (n + 1) (nI i) hv ch gr rs := by
      intro n i rs hi K
      have e : nI k + nI i = nI (k + i) := nI_add k i
      have in11 : vp_in (nI k + nI i) 11 := by rw [e]; exact vp_in_nI (by omega) (by omega)
      refine br_f (nI_ge (b := 3) hi (by omega)) (br_f dp ⟨in11, in11, nm_r (e' := upd rs (k + i) (rs (k + i) - nI d)) (by rw [e, nI_clamp (by omega)]) (nm_r (nI_1 i) K)⟩)
    refine ⟨4, step 3 0 rs (by omega) (step 2 1 _ (by omega) (step 1 2 _ (by omega) (br_t (nI_le (a := 3) (b := 3) (by omega) (by omega)) (nm_r (nI_1 k) (H _ ?_ ?_ ?_)))))⟩
    · rw [pk_un (by omega), pk_us, pk_un (by omega)]
    · rw [pk_us, pk_un (by omega), pk_un (by omega)]
    · intro j hj
      rw [pk_un (by omega), pk_un (by omega), pk_un (by omega)]
theorem th_y_div56 {post : Int32 → SY → Prop} {sz lk lf lv : Int32} {hv ch gr : Nat → Int32} {w : Nat → Nat} (hw : ∀ k, k < 9 → w k ≤ 20) :
    ∀ (m k r1 r2 : Nat) (rs : Nat → Int32) (n : Nat), k + m = 9 → m < n → r1 < 3 → r2 < 3 → (0 < m → rs k = nI (w k) - nI (r1 + r2)) → (1 < m → rs (k + 1) = nI (w (k + 1)) - nI r1) → (∀ j, k + 2 ≤ j → j < 9 → rs j = nI (w j)) →
      (∀ rs' : Nat → Int32, post (if th_dv w m k r1 r2 then 1 else 0) (sz, lk, lf, lv, hv, ch, gr, rs')) →
      wY_divides_56 post sz lk lf lv n (nI k) hv ch gr rs := by
  intro m
  induction m with
  | zero =>
    intro k r1 r2 rs n hkm hn h1 h2 e0 e1 e2 H
    obtain ⟨n, rfl⟩ : ∃ j, n = j + 1 := ⟨n - 1, by omega⟩
    exact br_t (nI_le (a := 9) (by omega) (by omega)) (H rs)
  | succ m ih =>
    intro k r1 r2 rs n hkm hn h1 h2 e0 e1 e2 H
    obtain ⟨n, rfl⟩ : ∃ j, n = j + 1 := ⟨n - 1, by omega⟩
    have hk : k < 9 := by omega
    have w20 := hw k hk
    have ek : (nI k).toNatClampNeg = k := nI_clamp (by omega)
    have in11 : vp_in (nI k) 11 := vp_in_nI (by omega) (by omega)
    refine br_f (nI_ge (b := 9) hk (by omega)) ⟨in11, ?_⟩
    rw [ek, e0 (by omega)]
    by_cases z : w k < r1 + r2
    · have H' := H rs
      unfold th_dv at H'
      rw [if_pos z] at H'
      exact br_f (Int32.not_le.mpr (pk_sneg (by omega) z)) H'
    · rw [pk_sub (by omega)]
      have rem := pk_rem (a := w k - (r1 + r2)) (d := 3) (by omega) (by omega) (by omega)
      have H2 := H
      unfold th_dv at H2
      rw [if_neg z] at H2
      obtain ⟨d, ed⟩ : ∃ d, d = (w k - (r1 + r2)) % 3 := ⟨_, rfl⟩
      have d3 : d < 3 := by omega
      rw [← ed] at rem H2
      refine br_t (nI_pos' (by omega)) ⟨in11, by decide, nm_r rem ?_⟩
      have go : (d = 0 ∨ k ≤ 4) → ∃ n96, wY_divides_96 post (wY_divides_56 post sz lk lf lv n) (nI k) (nI d) sz lk lf lv n96 0 hv ch gr rs := by
        intro hkd
        rw [if_neg (show ¬ (4 < k ∧ 0 < d) by omega)] at H2
        refine th_y_div96 hk d3 hkd fun rs' f1 f2 f3 => ?_
        refine ih (k + 1) d r1 rs' n (by omega) (by omega) d3 h1 (fun hm => ?_) (fun hm => ?_) (fun j hj hj9 => ?_) H2
        · rw [f1, e1 (by omega), th_sub2]
        · rw [show k + 1 + 1 = k + 2 from rfl, f2, e2 (k + 2) (by omega) (by omega)]
        · rw [f3 j (by omega), e2 j (by omega) hj9]
      refine pk_le d 0 (fun hd => go (Or.inl (by omega))) (fun hd => ?_)
      refine pk_le k 4 (fun h4 => go (Or.inr h4)) (fun h4 => ?_)
      rw [if_pos (show 4 < k ∧ 0 < d by omega)] at H2
      exact H2 rs
theorem th_y_divides {post : Int32 → SY → Prop} {c : Nat → Nat} {sz lk lf lv : Int32} {hv ch gr rs : Nat → Int32} {r : Nat} (hr : r < 9) (hc : ∀ k, k < 9 → ch k = nI (c k) ∧ c k ≤ 20)
    (H : ∀ rs' : Nat → Int32, post (if th_dvp c r then 1 else 0) (sz, lk, lf, lv, hv, ch, gr, rs')) :
    wpY_divides post (sz, lk, lf, lv, hv, ch, gr, rs) (nI r) := by
  have er : (nI r).toNatClampNeg = r := nI_clamp (by omega)
  have c20 := (hc r hr).2
  refine ⟨vp_in_nI hr (by omega), pk_le 2 (c r) (fun h2 => ?_) (fun h2 => ?_) rfl (by rw [er]; exact (hc r hr).1) (by omega) (by omega)⟩
  · have H' : ∀ rs' : Nat → Int32, post (if th_dv (th_sub c r) 9 0 0 0 then 1 else 0) (sz, lk, lf, lv, hv, ch, gr, rs') := by
      intro rs'
      have := H rs'
      unfold th_dvp at this
      rw [decide_eq_true h2, Bool.true_and] at this
      exact this
    refine loop_0 (fun n i s => wY_divides_14 post (nI r) sz lk lf lv n (nI i) hv ch gr s) (fun i s => ∀ k, k < i → s k = nI (th_sub c r k)) 9 rs (fun k hk => absurd hk (by omega)) ?_ ?_
    · intro n s hI
      refine br_t (nI_le (a := 9) (b := 9) (by omega) (by omega)) ⟨10, ?_⟩
      refine th_y_div56 (w := th_sub c r) (fun k hk => ?_) 9 0 0 0 s 10 rfl (by omega) (by omega) (by omega) (fun _ => ?_) (fun _ => ?_) (fun j _ hj => hI j hj) H'
      · have := (hc k hk).2
        unfold th_sub
        split <;> omega
      · rw [hI 0 (by omega), th_sub0]
      · rw [hI (0 + 1) (by omega), th_sub0]
    · intro n i s hi hI ih
      have e : (nI i).toNatClampNeg = i := nI_clamp (by omega)
      have c20 := (hc i hi).2
      have in9 : vp_in (nI i) 9 := vp_in_nI hi (by omega)
      have in11 : vp_in (nI i) 11 := vp_in_nI (by omega) (by omega)
      have nx : ∀ x : Int32, x = nI (th_sub c r i) → ∀ k, k < i + 1 → upd s i x k = nI (th_sub c r k) := by
        intro x ex k hk
        by_cases z : k = i
        · subst z; rw [pk_us]; exact ex
        · rw [pk_un z]; exact hI k (by omega)
      refine br_f (nI_ge (b := 9) hi (by omega)) (pk_eq i r (fun z => ?_) (fun z => ?_))
      · refine ⟨in9, in11, nm_r (e' := upd s i (nI (c i - 2))) (by rw [e, (hc i hi).1]; congr 1; exact pk_sub (b := 2) (by rw [z]; exact h2)) (nm_r (nI_1 i) (ih _ (nx _ ?_)))⟩
        unfold th_sub; rw [if_pos z]
      · refine ⟨in9, in11, nm_r (e' := upd s i (nI (c i))) (by rw [e, (hc i hi).1]) (nm_r (nI_1 i) (ih _ (nx _ ?_)))⟩
        unfold th_sub; rw [if_neg z]
  · have := H rs
    unfold th_dvp at this
    rw [decide_eq_false (by omega), Bool.false_and] at this
    exact this
theorem th_y_counts {post : Int32 → SY → Prop} {c : Nat → Nat} {sz lk lf lv : Int32} {hv ch gr rs : Nat → Int32} {p a b d : Nat} (hp : p < 9) (hc : ∀ k, k < 9 → ch k = nI (c k) ∧ c k ≤ 20) (ha : a < 14) (hb : b < 14) (hd : d < 14)
    (ga : gr 0 = nI a) (gb : gr 1 = nI b) (gd : gr 2 = nI d)
    (H1 : ¬ (8 < a ∧ a = b ∧ a = d) → (∀ r, r < p → th_dvp c r = false) → ∀ rs' : Nat → Int32, post 1 (sz, lk, lf, lv, hv, ch, gr, rs'))
    (H0 : ¬ (¬ (8 < a ∧ a = b ∧ a = d) ∧ ∀ r, r < p → th_dvp c r = false) → ∀ rs' : Nat → Int32, post 0 (sz, lk, lf, lv, hv, ch, gr, rs')) :
    wpY_counts post (sz, lk, lf, lv, hv, ch, gr, rs) (nI p) := by
  have go : ¬ (8 < a ∧ a = b ∧ a = d) → ∃ n45, wY_counts_45 post (nI p) n45 0 sz lk lf lv hv ch gr rs := by
    intro nt
    refine loop_0 (fun n i s => wY_counts_45 post (nI p) n (nI i) sz lk lf lv hv ch gr s) (fun i _ => ∀ r, r < i → th_dvp c r = false) p rs (fun k hk => absurd hk (by omega)) ?_ ?_
    · intro n s hI
      exact br_t (nI_le (Nat.le_refl p) (by omega)) (H1 nt hI s)
    · intro n i s hi hI ih
      refine br_f (nI_ge hi (by omega)) (th_y_divides (by omega) hc fun rs' => ?_)
      cases z : th_dvp c i with
      | false =>
        refine br_t rfl (nm_r (nI_1 i) (ih rs' fun r hr => ?_))
        by_cases y : r = i
        · rw [y]; exact z
        · exact hI r (by omega)
      | true =>
        refine br_f (by decide) (H0 (fun y => ?_) rs')
        have := y.2 i hi
        rw [z] at this
        cases this
  refine pk_le a 8 (fun h => go (by omega)) (fun h8 => ?_) ga rfl (by omega) (by omega)
  refine pk_eq a b (fun hab => ?_) (fun hab => go (by omega)) ga gb (by omega) (by omega)
  refine pk_eq a d (fun had => ?_) (fun had => go (by omega)) ga gd (by omega) (by omega)
  exact H0 (fun y => y.1 ⟨h8, hab, had⟩) rs

/-- what the reference counts with the pair p -/
noncomputable def th_P (h : Nat → Nat) (p q : Nat) : Bool := th_val q p && th_cn q p && th_B (∀ k, k < 9 → h k ≤ th_dg (th_code (th_cv q p)) k)
theorem th_P_iff {h : Nat → Nat} {p q : Nat} : th_P h p q = true ↔ th_V (th_pr p) q ∧ th_cn q p = true ∧ ∀ k, k < 9 → h k ≤ th_pr p k + th_vec q k := by
  have e : ∀ k, th_pr p k + th_vec q k = th_cv q p k := fun k => by unfold th_pr th_cv; omega
  unfold th_P th_V
  simp only [e]
  rw [Bool.and_eq_true, Bool.and_eq_true, th_val_iff, th_B_iff]
  constructor
  · rintro ⟨⟨a, b⟩, d⟩
    exact ⟨a, b, fun k hk => by rw [← th_dg_code a.2.2 k hk]; exact d k hk⟩
  · rintro ⟨a, b, d⟩
    exact ⟨⟨a, b⟩, fun k hk => by rw [th_dg_code a.2.2 k hk]; exact d k hk⟩
theorem th_P_f {h : Nat → Nat} {p q : Nat} (n : ¬ (th_V (th_pr p) q ∧ th_cn q p = true ∧ ∀ k, k < 9 → h k ≤ th_pr p k + th_vec q k)) : th_P h p q = false := by
  cases z : th_P h p q with
  | false => rfl
  | true => exact absurd (th_P_iff.mp z) n
theorem th_over_le {h c c' : Nat → Nat} (l : ∀ k, k < 9 → c k ≤ c' k) : th_over h c + th_s9 c ≤ th_over h c' + th_s9 c' := by
  unfold th_over
  rw [← th_s9_add, ← th_s9_add]
  exact th_s9_le fun k hk => by have := l k hk; omega
theorem th_pr_s9 {p : Nat} (hp : p < 9) : th_s9 (th_pr p) = 2 := th_pair_s9 p hp
theorem th_y_compl_loop {post : Int32 → SY → Prop} {h : Nat → Nat} {sz : Int32} {hv : Nat → Int32} {p : Nat} (hp : p < 9)
    (H : ∀ (lk' lf' lv' : Int32) (ch' gr' rs' : Nat → Int32), post (nI (th_cnt (th_P h p) 3375)) (sz, lk', lf', lv', hv, ch', gr', rs')) :
    ∀ (n l g0 g1 e : Nat) (lk lf lv : Int32) (ch gr rs : Nat → Int32), th_mu l g0 g1 e < n → th_SS h (th_pr p) (fun _ => 4) l g0 g1 e lk lf lv hv ch gr →
      wY_completeWith_14 post (nI p) n (nI (th_cnt (th_P h p) (th_T l g0 g1 e))) sz lk lf lv hv ch gr rs := by
  intro n
  induction n with
  | zero => intro l g0 g1 e lk lf lv ch gr rs hm; omega
  | succ n ih =>
    intro l g0 g1 e lk lf lv ch gr rs hm S
    have w := S.1
    have w1 := w.1
    refine br_f (by rw [S.2.2.2.1]; exact nI_pos (by omega)) ?_
    refine th_y_choose (Or.inl ⟨rfl, fun _ _ => rfl⟩) (fun _ _ => by decide) S ?_ ?_ ?_ ?_
    · rintro rfl rfl gr'
      refine br_t rfl ?_
      obtain ⟨j, rfl⟩ : ∃ j, n = j + 1 := ⟨n - 1, by unfold th_mu at hm; omega⟩
      have ee : th_cnt (th_P h p) (th_T 0 g0 g1 14) = th_cnt (th_P h p) 3375 := by
        refine (th_cnt_none (by unfold th_T; simp) fun q a b => th_P_f fun v => ?_).symm
        have := th_end (q := q) (by unfold th_T at *; simpa using a) b v.1.1
        have := v.1.2.1
        omega
      rw [ee]
      exact br_t (by decide) (H _ _ _ _ _ _)
    · rintro rfl hl lk' lf' lv' ch' gr' S'
      refine br_t rfl ?_
      have ee : th_cnt (th_P h p) (th_T l g0 g1 14) = th_cnt (th_P h p) (th_T (l - 1) g0 g1 (th_gl l g0 g1 + 1)) := by
        refine (th_cnt_none (Nat.le_of_lt (th_T_up w hl)) fun q a b => th_P_f fun v => ?_).symm
        have := th_up w hl a b v.1.1
        have := v.1.2.1
        omega
      rw [ee]
      exact ih (l - 1) g0 g1 _ _ _ _ _ _ _ (by have := th_mu_up w hl; omega) S'
    · intro h13 hf gr' S'
      refine br_t rfl ?_
      have ee : th_cnt (th_P h p) (th_T l g0 g1 e) = th_cnt (th_P h p) (th_T l g0 g1 (e + 1)) := by
        refine (th_cnt_none (Nat.le_of_lt th_T_next) fun q a b => th_P_f fun v => ?_).symm
        refine absurd (fun k hk => ?_) hf
        have := th_gap (base := th_pr p) w h13 a b k
        have := v.1.2.2 k hk
        omega
      rw [ee]
      exact ih l g0 g1 (e + 1) _ _ _ _ _ _ (by have := th_mu_next w; omega) S'
    · intro h13 lk' lf' ch' gr' S'
      have elv : lv = nI l := S'.2.2.2.2.1
      have elf : lf' = nI (th_over h (fun k => th_ch (th_pr p) l g0 g1 k + th_G e k)) := S'.2.2.1.2.2.2
      have lf180 : th_over h (fun k => th_ch (th_pr p) l g0 g1 k + th_G e k) ≤ 180 := th_over_b fun k hk => (S'.2.2.1.1 k hk).2
      have s9 : th_s9 (fun k => th_ch (th_pr p) l g0 g1 k + th_G e k) = 5 + 3 * l := by
        rw [th_s9_add, th_ch_s9 w, th_pr_s9 hp, th_G_s9 e (by omega), th_one, if_pos (by omega)]
        omega
      have give : ∀ (N : Nat) (rs' : Nat → Int32), th_cnt (th_P h p) (th_T l g0 g1 (e + 1)) = N → wY_completeWith_97 post (wY_completeWith_14 post (nI p) n) (nI p) (nI N) sz lk' lf' lv hv ch' gr' rs' := by
        intro N rs' eN
        rw [← eN]
        exact th_y_give S' fun lk2 lf2 ch2 S2 => ih l g0 g1 (e + 1) _ _ _ _ _ _ (by have := th_mu_next w; omega) S2
      have e32 : 3 * (2 - lv) = nI (3 * (2 - l)) := by
        rw [elv, show (2 : Int32) = nI 2 from rfl, pk_sub w1, show (3 : Int32) = nI 3 from rfl, pk_mul]
      refine br_f (by decide) (pk_lt (3 * (2 - l)) (th_over h (fun k => th_ch (th_pr p) l g0 g1 k + th_G e k)) (fun hlt => ?_) (fun hle => ?_) e32 elf (by omega) (by omega))
      · -- not hopeful
        refine br_t rfl (br_t rfl (give _ rs (th_cnt_none (Nat.le_of_lt th_T_next) fun q a b => th_P_f fun v => ?_)))
        have l1 := th_over_le (h := h) (c := fun k => th_ch (th_pr p) l g0 g1 k + th_G e k) (c' := fun k => th_pr p k + th_vec q k) (fun k _ => th_gap (base := th_pr p) w h13 a b k)
        have l2 : th_over h (fun k => th_pr p k + th_vec q k) = 0 := th_over_0.mpr v.2.2
        have q3 : q < 3375 := by
          have h1 := th_T_lt (th_wf_next w h13)
          omega
        rw [l2, s9, th_s9_add, th_pr_s9 hp, th_vec_s9 q3, v.1.2.1] at l1
        omega
      · refine br_f (by decide) (pk_eq l 2 (fun hl => ?_) (fun hl => ?_) elv rfl (by omega) (by omega))
        · subst hl
          obtain ⟨x1, x2, x3, x4, x5, x6⟩ := th_wq_s w h13
          have g13 := w.2.2.1 (by omega)
          have g23 := w.2.2.2 (by omega)
          have wq : th_wq 2 g0 g1 e = g0 * 225 + g1 * 15 + e := rfl
          have da : th_a (th_wq 2 g0 g1 e) = g0 := by rw [wq]; unfold th_a; omega
          have db : th_b (th_wq 2 g0 g1 e) = g1 := by rw [wq]; unfold th_b; omega
          have dc : th_c (th_wq 2 g0 g1 e) = e := by rw [wq]; unfold th_c; omega
          have cvk : ∀ k, th_ch (th_pr p) 2 g0 g1 k + th_G e k = th_cv (th_wq 2 g0 g1 e) p k := fun k => by
            rw [← x6]; unfold th_pr th_cv; omega
          have V : th_V (th_pr p) (th_wq 2 g0 g1 e) := ⟨x1, x2, fun k hk => by rw [x6]; exact S'.2.2.2.1 k hk⟩
          have hh : ∀ k, k < 9 → h k ≤ th_pr p k + th_vec (th_wq 2 g0 g1 e) k := by
            intro k hk
            rw [x6]
            exact th_over_0.mp (show th_over h (fun k => th_ch (th_pr p) 2 g0 g1 k + th_G e k) = 0 by omega) k hk
          have dvp : ∀ r, r < 9 → th_dvp (fun k => th_ch (th_pr p) 2 g0 g1 k + th_G e k) r = th_dvp (th_cv (th_wq 2 g0 g1 e) p) r := fun r hr => th_dvp_ext hr fun k _ => cvk k
          have trip : th_trip (th_wq 2 g0 g1 e) = true ↔ (8 < g0 ∧ g0 = g1 ∧ g0 = e) := by
            unfold th_trip
            rw [Bool.and_eq_true, Bool.and_eq_true, decide_eq_true_eq, decide_eq_true_eq, decide_eq_true_eq, da, db, dc, and_assoc]
          have cn : th_cn (th_wq 2 g0 g1 e) p = true ↔ (¬ (8 < g0 ∧ g0 = g1 ∧ g0 = e) ∧ ∀ r, r < p → th_dvp (fun k => th_ch (th_pr p) 2 g0 g1 k + th_G e k) r = false) := by
            rw [th_cn_iff, ← trip, Bool.not_eq_true]
            constructor
            · rintro ⟨a, b⟩
              exact ⟨a, fun r hr => by rw [dvp r (by omega)]; exact b r hr⟩
            · rintro ⟨a, b⟩
              exact ⟨a, fun r hr => by rw [← dvp r (by omega)]; exact b r hr⟩
          have l2 : (2 : Int32) ≤ lv := by rw [elv]; exact nI_le (a := 2) (b := 2) (by omega) (by omega)
          refine th_y_counts (c := fun k => th_ch (th_pr p) 2 g0 g1 k + th_G e k) (a := g0) (b := g1) (d := e) hp S'.2.2.1.2.1 (by omega) (by omega) (by omega) (S'.2.2.2.2.2.1 (by omega)) (S'.2.2.2.2.2.2.1 (by omega)) S'.2.2.2.2.2.2.2 ?_ ?_
          · intro nt nd rs'
            refine br_f (by decide) (nm_r (nI_1 _) (br_f (by decide) (br_t l2 (give _ rs' ?_))))
            exact th_cnt_one (th_wq 2 g0 g1 e) x3 x4 (th_P_iff.mpr ⟨V, cn.mpr ⟨nt, nd⟩, hh⟩) fun q a b _ => th_leaf a b
          · intro nn rs'
            refine br_t rfl (br_f (by decide) (br_t l2 (give _ rs' ?_)))
            refine th_cnt_none (Nat.le_of_lt th_T_next) fun q a b => th_P_f fun v => ?_
            rw [th_leaf a b] at v
            exact nn (cn.mp v.2.1)
        · refine br_f (by decide) (br_f (by rw [elv]; exact nI_ge (b := 2) (by omega) (by omega)) ?_)
          have ee : th_cnt (th_P h p) (th_T l g0 g1 e) = th_cnt (th_P h p) (th_T (l + 1) (th_n0 l g0 e) (th_n1 l g1 e) e) := by
            refine (th_cnt_none (th_T_deep (by omega)) fun q a b => th_P_f fun v => ?_).symm
            have z := v.1.1
            rw [th_deep w h13 (by omega) a b] at z
            cases z
          rw [ee]
          exact th_y_deeper (by omega) S' fun lv2 gr2 S2 => ih (l + 1) _ _ e _ _ _ _ _ _ (by have := th_mu_deep (l := l) (g0 := g0) (g1 := g1) (e := e) (by omega); omega) S2
theorem th_y_completeWith {post : Int32 → SY → Prop} {h : Nat → Nat} {sz lk lf lv : Int32} {hv ch gr rs : Nat → Int32} {p : Nat} (hp : p < 9) (Y : th_YC h (th_pr p) lk lf hv ch)
    (H : ∀ (lk' lf' lv' : Int32) (ch' gr' rs' : Nat → Int32), post (nI (th_cnt (th_P h p) 3375)) (sz, lk', lf', lv', hv, ch', gr', rs')) :
    wpY_completeWith post (sz, lk, lf, lv, hv, ch, gr, rs) (nI p) := by
  refine nm_r (e' := upd gr 0 (-1)) rfl ⟨th_mu 0 0 0 0 + 1, ?_⟩
  exact th_y_compl_loop hp H _ 0 0 0 0 _ _ 0 _ _ _ (by omega) (th_SS_0 Y fun k hk => by unfold th_pr; split <;> omega)
