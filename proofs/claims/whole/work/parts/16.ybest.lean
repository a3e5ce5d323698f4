/-! the reference: best, ways, completions -/
def th_bs (h : Nat → Nat) : Nat → Option (Int32 × Int32 × Int32)
  | 0 => none
  | k + 1 => if h k = 0 then th_bs h k else
    match th_bs h k with
    | none => some (nI k, nI (th_dist (th_dec h k)), th_hpv (th_dec h k))
    | some (b, d, m) => if nI (th_dist (th_dec h k)) < d ∨ (nI (th_dist (th_dec h k)) = d ∧ ¬ th_hpv (th_dec h k) ≤ m) then some (nI k, nI (th_dist (th_dec h k)), th_hpv (th_dec h k)) else some (b, d, m)
def th_bv (h : Nat → Nat) : Int32 := match th_bs h 9 with
  | none => -4
  | some (b, _, _) => b
theorem th_bs_0 {h : Nat → Nat} {k : Nat} (z : h k = 0) : th_bs h (k + 1) = th_bs h k := by
  show (if h k = 0 then _ else _) = _
  rw [if_pos z]
theorem th_bs_n {h : Nat → Nat} {k : Nat} (z : h k ≠ 0) (e : th_bs h k = none) : th_bs h (k + 1) = some (nI k, nI (th_dist (th_dec h k)), th_hpv (th_dec h k)) := by
  show (if h k = 0 then _ else _) = _
  rw [if_neg z, e]
theorem th_bs_t {h : Nat → Nat} {k : Nat} {b d m : Int32} (z : h k ≠ 0) (e : th_bs h k = some (b, d, m)) (c : nI (th_dist (th_dec h k)) < d ∨ (nI (th_dist (th_dec h k)) = d ∧ ¬ th_hpv (th_dec h k) ≤ m)) :
    th_bs h (k + 1) = some (nI k, nI (th_dist (th_dec h k)), th_hpv (th_dec h k)) := by
  show (if h k = 0 then _ else _) = _
  rw [if_neg z, e]
  exact if_pos c
theorem th_bs_f {h : Nat → Nat} {k : Nat} {b d m : Int32} (z : h k ≠ 0) (e : th_bs h k = some (b, d, m)) (c : ¬ (nI (th_dist (th_dec h k)) < d ∨ (nI (th_dist (th_dec h k)) = d ∧ ¬ th_hpv (th_dec h k) ≤ m))) :
    th_bs h (k + 1) = some (b, d, m) := by
  show (if h k = 0 then _ else _) = _
  rw [if_neg z, e]
  exact if_neg c
theorem th_s9_dec {h : Nat → Nat} {k : Nat} (hk : k < 9) (h1 : 0 < h k) : th_s9 (th_dec h k) + 1 = th_s9 h := by
  have e := th_s9_put (fun _ y => y) h (h k - 1) k hk
  have e' : th_s9 (th_dec h k) = th_s9 (fun j => th_put h k (h k - 1) j) := th_s9_ext fun j _ => th_dec_put j
  have : th_s9 (fun j => h j) = th_s9 h := rfl
  omega
theorem th_dec_upd {h : Nat → Nat} {hv : Nat → Int32} {k : Nat} (Y : ∀ k, k < 9 → hv k = nI (h k)) : ∀ j, j < 9 → upd hv k (nI (h k - 1)) j = nI (th_dec h k j) := by
  intro j hj
  by_cases z : j = k
  · subst z; rw [pk_us]; unfold th_dec; rw [if_pos rfl]
  · rw [pk_un z]; unfold th_dec; rw [if_neg z]; exact Y j hj
theorem th_YH_dec {h : Nat → Nat} {sz : Int32} {hv : Nat → Int32} {k : Nat} (hk : k < 9) (Y : th_YH h sz hv) (h1 : 0 < h k) : th_YH (th_dec h k) (nI (th_s9 h - 1)) (upd hv k (nI (h k - 1))) := by
  have e := th_s9_dec hk h1
  have := Y.2.2.2
  refine ⟨th_dec_upd Y.1, fun j hj => ?_, ?_, by omega⟩
  · have := Y.2.1 j hj
    unfold th_dec
    omega
  · congr 1; omega
theorem th_m1 {n : Nat} (h : 0 < n) : nI n + (-1) = nI (n - 1) := by
  obtain ⟨m, rfl⟩ : ∃ m, n = m + 1 := ⟨n - 1, by omega⟩
  exact pk_m1 m
theorem th_y_best {post : Int32 → SY → Prop} {h : Nat → Nat} {sz lk lf lv : Int32} {hv ch gr rs : Nat → Int32} (Y : th_YH h sz hv)
    (H : ∀ (lk' lf' lv' : Int32) (ch' gr' : Nat → Int32), post (th_bv h) (sz, lk', lf', lv', hv, ch', gr', rs)) :
    wpY_best post (sz, lk, lf, lv, hv, ch, gr, rs) := by
  refine loop_0 (fun n i (s : Int32 × Int32 × Int32 × Int32 × Int32 × Int32 × (Nat → Int32) × (Nat → Int32)) => wY_best_11 post n s.1 s.2.1 s.2.2.1 (nI i) sz s.2.2.2.1 s.2.2.2.2.1 s.2.2.2.2.2.1 hv s.2.2.2.2.2.2.1 s.2.2.2.2.2.2.2 rs)
    (fun i s => (th_bs h i = none ∧ s.1 = -4 ∧ s.2.1 = 12 ∧ s.2.2.1 = -1) ∨ th_bs h i = some (s.1, s.2.1, s.2.2.1)) 9 (-4, 12, -1, lk, lf, lv, ch, gr) (Or.inl ⟨rfl, rfl, rfl, rfl⟩) ?_ ?_
  · rintro n ⟨x1, x2, x3, lk1, lf1, lv1, ch1, gr1⟩ I
    dsimp only at I ⊢
    have e : x1 = th_bv h := by
      unfold th_bv
      rcases I with ⟨a, b, _, _⟩ | a
      · rw [a, b]
      · rw [a]
    rw [e]
    exact br_t (nI_le (a := 9) (b := 9) (by omega) (by omega)) (H lk1 lf1 lv1 ch1 gr1)
  · rintro n k ⟨x1, x2, x3, lk1, lf1, lv1, ch1, gr1⟩ hk I ih
    dsimp only at I ih ⊢
    have ek : (nI k).toNatClampNeg = k := nI_clamp (by omega)
    have in9 : vp_in (nI k) 9 := vp_in_nI hk (by omega)
    have h4 := Y.2.1 k hk
    have s12 := Y.2.2.2
    refine br_f (nI_ge (b := 9) hk (by omega)) ⟨in9, pk_le (h k) 0 (fun z => ?_) (fun z => ?_) (by rw [ek]; exact Y.1 k hk) rfl (by omega) (by omega)⟩
    · refine nm_r (nI_1 k) (ih (x1, x2, x3, lk1, lf1, lv1, ch1, gr1) ?_)
      dsimp only
      rw [th_bs_0 (by omega)]
      exact I
    · have sp := th_s9_dec hk z
      have Y' := th_YH_dec hk Y z
      have d11 := th_dist_11 (th_dec h k)
      have back : ∀ (x1 x2 x3 lk2 lf2 lv2 : Int32) (ch2 gr2 : Nat → Int32), ((th_bs h (k + 1) = none ∧ x1 = -4 ∧ x2 = 12 ∧ x3 = -1) ∨ th_bs h (k + 1) = some (x1, x2, x3)) →
          wY_best_86 post (wY_best_11 post n) x1 x2 x3 (nI k) (nI (th_s9 h - 1)) lk2 lf2 lv2 (upd hv k (nI (h k - 1))) ch2 gr2 rs := by
        intro x1 x2 x3 lk2 lf2 lv2 ch2 gr2 I2
        refine ⟨in9, in9, nm_r (e' := hv) ?_ (nm_r (e' := sz) (by rw [nI_1, Y.2.2.1]; congr 1; omega) (nm_r (nI_1 k) (ih (x1, x2, x3, lk2, lf2, lv2, ch2, gr2) I2)))⟩
        rw [ek, pk_us, nI_1]
        exact th_upd2 (by rw [Y.1 k hk]; congr 1; omega)
      refine ⟨in9, in9, nm_r (e' := upd hv k (nI (h k - 1))) (by rw [ek, Y.1 k hk, th_m1 z]) (nm_r (e' := nI (th_s9 h - 1)) (by rw [Y.2.2.1, th_m1 (by omega)]) ?_)⟩
      refine th_y_distance Y' fun lk2 lf2 lv2 ch2 gr2 => ?_
      have hopeful : ∀ (lk3 lf3 lv3 : Int32) (ch3 gr3 : Nat → Int32), wY_best_57 post (wY_best_11 post n) x1 x2 x3 (nI k) (nI (th_dist (th_dec h k))) (th_hpv (th_dec h k)) (nI (th_s9 h - 1)) lk3 lf3 lv3 (upd hv k (nI (h k - 1))) ch3 gr3 rs := by
        intro lk3 lf3 lv3 ch3 gr3
        rcases I with ⟨a, b, c, d⟩ | a
        · subst b c d
          refine br_t (nI_lt (b := 12) (by omega) (by omega)) (back _ _ _ lk3 lf3 lv3 ch3 gr3 (Or.inr (th_bs_n (by omega) a)))
        · refine br_c (fun u => back _ _ _ lk3 lf3 lv3 ch3 gr3 (Or.inr (th_bs_t (by omega) a (Or.inl u)))) (fun u => br_c (fun v => br_c (fun t => ?_) (fun t => ?_)) (fun v => ?_))
          · exact back _ _ _ lk3 lf3 lv3 ch3 gr3 (Or.inr (th_bs_f (by omega) a (fun y => y.elim u fun y => y.2 t)))
          · exact back _ _ _ lk3 lf3 lv3 ch3 gr3 (Or.inr (th_bs_t (by omega) a (Or.inr ⟨v, t⟩)))
          · exact back _ _ _ lk3 lf3 lv3 ch3 gr3 (Or.inr (th_bs_f (by omega) a (fun y => y.elim u fun y => v y.1)))
      refine br_c (fun u => ?_) (fun u => th_y_hopeFrom Y' (by omega) fun lk3 lf3 lv3 ch3 gr3 => hopeful lk3 lf3 lv3 ch3 gr3)
      rcases I with ⟨a, b, c, d⟩ | a
      · subst c
        exact absurd u (nI_nlt (b := th_dist (th_dec h k)) (a := 12) (by omega) (by omega))
      · have nl : ¬ nI (th_dist (th_dec h k)) < x2 := fun y => Int32.lt_irrefl (Int32.lt_trans y u)
        have ne : ¬ nI (th_dist (th_dec h k)) = x2 := fun y => Int32.lt_irrefl (a := x2) (by rw [y] at u; exact u)
        refine br_f nl (br_f ne (back _ _ _ lk2 lf2 lv2 ch2 gr2 (Or.inr (th_bs_f (by omega) a (fun y => y.elim nl fun y => ne y.1)))))
/-- ways -/
def th_way (h : Nat → Nat) (n q : Nat) : Prop := th_srt q = true ∧ ∃ p, p < n ∧ ∀ k, k < 9 → h k = th_pr p k + th_vec q k
theorem th_way_s9 {h : Nat → Nat} {n q : Nat} (hn : n ≤ 9) (hq : q < 3375) (w : th_way h n q) : th_s9 h = 2 + 3 * th_sz q := by
  obtain ⟨_, p, hp, e⟩ := w
  rw [th_s9_ext e, th_s9_add, th_pr_s9 (by omega), th_vec_s9 hq]
noncomputable def th_wn (h : Nat → Nat) (n : Nat) : Nat := th_cnt (fun q => th_B (th_way h n q)) 3375
theorem th_wn_0 {h : Nat → Nat} : th_wn h 0 = 0 := by
  have : th_wn h 0 = th_cnt (fun q => th_B (th_way h 0 q)) 0 := th_cnt_none (by omega) fun q _ _ => th_B_f fun w => by
    obtain ⟨_, p, hp, _⟩ := w
    omega
  rw [this]; rfl
theorem th_wn_s {h : Nat → Nat} {p : Nat} (hp : p < 9) (s : th_s9 h % 3 = 2) : th_wn h (p + 1) = th_wn h p + th_cnt (th_E h (th_pr p) (th_s9 h / 3)) 3375 := by
  have E : ∀ q, q < 3375 → (th_E h (th_pr p) (th_s9 h / 3) q = true ↔ th_srt q = true ∧ ∀ k, k < 9 → h k = th_pr p k + th_vec q k) := by
    intro q hq
    unfold th_E
    rw [th_B_iff]
    constructor
    · rintro ⟨⟨a, b⟩, c⟩
      refine ⟨a, fun k hk => (th_s9_pin b ?_ k hk).symm⟩
      rw [th_s9_add, th_pr_s9 hp, th_vec_s9 hq]
      omega
    · rintro ⟨a, b⟩
      have := th_way_s9 (n := p + 1) (by omega) hq ⟨a, p, by omega, b⟩
      exact ⟨⟨a, fun k hk => by rw [b k hk]; exact Nat.le_refl _⟩, by omega⟩
  refine th_cnt_or 3375 (fun q hq => ?_) (fun q hq w => ?_)
  · have e := E q hq
    rw [Bool.eq_iff_iff, Bool.or_eq_true, th_B_iff, th_B_iff, e]
    constructor
    · rintro ⟨a, p', hp', b⟩
      by_cases z : p' = p
      · subst z; exact Or.inr ⟨a, b⟩
      · exact Or.inl ⟨a, p', by omega, b⟩
    · rintro (⟨a, p', hp', b⟩ | ⟨a, b⟩)
      · exact ⟨a, p', by omega, b⟩
      · exact ⟨a, p, by omega, b⟩
  · obtain ⟨a, p', hp', b⟩ := th_B_iff.mp w
    cases z : th_E h (th_pr p) (th_s9 h / 3) q with
    | false => rfl
    | true =>
      have c := ((E q hq).mp z).2
      have c1 := c p hp
      have b1 := b p hp
      unfold th_pr at c1 b1
      rw [if_pos rfl] at c1
      rw [if_neg (by omega)] at b1
      omega
theorem th_wn_skip {h : Nat → Nat} {p : Nat} (hp : p < 9) (z : h p ≤ 1) : th_wn h (p + 1) = th_wn h p := by
  refine th_cnt_ext 3375 fun q _ => ?_
  rw [Bool.eq_iff_iff, th_B_iff, th_B_iff]
  constructor
  · rintro ⟨a, p', hp', b⟩
    by_cases y : p' = p
    · subst y
      have := b p' hp
      unfold th_pr at this
      rw [if_pos rfl] at this
      omega
    · exact ⟨a, p', by omega, b⟩
  · rintro ⟨a, p', hp', b⟩
    exact ⟨a, p', by omega, b⟩
theorem th_y_ways {post : Int32 → SY → Prop} {h : Nat → Nat} {sz lk lf lv : Int32} {hv ch gr rs : Nat → Int32} (Y : th_YH h sz hv) (s11 : th_s9 h ≤ 11)
    (H : ∀ (lk' lf' lv' : Int32) (ch' gr' : Nat → Int32), post (nI (th_wn h 9)) (sz, lk', lf', lv', hv, ch', gr', rs)) :
    wpY_ways post (sz, lk, lf, lv, hv, ch, gr, rs) := by
  have rem := pk_rem (a := th_s9 h) (d := 3) (by omega) (by omega) (by omega)
  have div := pk_div (a := th_s9 h) (d := 3) (by omega) (by omega) (by omega)
  rw [← Y.2.2.1] at rem div
  refine ⟨by decide, pk_eq (th_s9 h % 3) 2 (fun s => ?_) (fun s => ?_) rem rfl (by omega) (by omega)⟩
  · refine loop_0 (fun n i (s : Int32 × Int32 × Int32 × Int32 × (Nat → Int32) × (Nat → Int32)) => wY_ways_16 post n s.1 (nI i) sz s.2.1 s.2.2.1 s.2.2.2.1 hv s.2.2.2.2.1 s.2.2.2.2.2 rs)
      (fun i s => s.1 = nI (th_wn h i)) 9 (0, lk, lf, lv, ch, gr) (by rw [th_wn_0]; rfl) ?_ ?_
    · rintro n ⟨x1, lk1, lf1, lv1, ch1, gr1⟩ e
      dsimp only at e ⊢
      rw [e]
      exact br_t (nI_le (a := 9) (b := 9) (by omega) (by omega)) (H lk1 lf1 lv1 ch1 gr1)
    · rintro n p ⟨x1, lk1, lf1, lv1, ch1, gr1⟩ hp e ih
      dsimp only at e ih ⊢
      subst e
      have ek : (nI p).toNatClampNeg = p := nI_clamp (by omega)
      have h4 := Y.2.1 p hp
      refine br_f (nI_ge (b := 9) hp (by omega)) ⟨vp_in_nI hp (by omega), pk_le (h p) 1 (fun z => ?_) (fun z => ?_) (by rw [ek]; exact Y.1 p hp) rfl (by omega) (by omega)⟩
      · exact nm_r (nI_1 p) (ih (nI (th_wn h p), lk1, lf1, lv1, ch1, gr1) (by rw [th_wn_skip hp z]))
      · refine th_y_pair hp Y fun lk2 lf2 ch2 Y2 => ⟨by decide, ?_⟩
        have d3 : sz / 3 = nI (th_s9 h / 3) := div
        rw [d3]
        refine th_y_countWith (base := th_pr p) (by omega) (fun k hk => by have := Y.2.1 k hk; omega) Y2 (fun k hk => ?_) fun lk3 lf3 lv3 ch3 gr3 => ?_
        · unfold th_pr
          split
          · rename_i y; rw [y]; omega
          · omega
        · refine nm_r (nI_add _ _) (nm_r (nI_1 p) (ih (_, lk3, lf3, lv3, ch3, gr3) ?_))
          rw [th_wn_s hp s]; rfl
  · have e : th_wn h 9 = 0 := by
      have : th_wn h 9 = th_cnt (fun q => th_B (th_way h 9 q)) 0 := th_cnt_none (by omega) fun q _ hq => th_B_f fun w => by
        have := th_way_s9 (by omega) hq w
        omega
      rw [this]; rfl
    have := H lk lf lv ch gr
    rw [e] at this
    exact this
/-- completions -/
theorem th_y_completions {post : Int32 → SY → Prop} {h : Nat → Nat} {sz lk lf lv : Int32} {hv ch gr rs : Nat → Int32} (Y : th_YH h sz hv)
    (H : ∀ (lk' lf' lv' : Int32) (ch' gr' rs' : Nat → Int32), post (nI (th_ps (fun p => th_cnt (th_P h p) 3375) 9)) (sz, lk', lf', lv', hv, ch', gr', rs')) :
    wpY_completions post (sz, lk, lf, lv, hv, ch, gr, rs) := by
  refine loop_0 (fun n i (s : Int32 × Int32 × Int32 × Int32 × (Nat → Int32) × (Nat → Int32) × (Nat → Int32)) => wY_completions_4 post n s.1 (nI i) sz s.2.1 s.2.2.1 s.2.2.2.1 hv s.2.2.2.2.1 s.2.2.2.2.2.1 s.2.2.2.2.2.2)
    (fun i s => s.1 = nI (th_ps (fun p => th_cnt (th_P h p) 3375) i)) 9 (0, lk, lf, lv, ch, gr, rs) rfl ?_ ?_
  · rintro n ⟨x1, lk1, lf1, lv1, ch1, gr1, rs1⟩ e
    dsimp only at e ⊢
    rw [e]
    exact br_t (nI_le (a := 9) (b := 9) (by omega) (by omega)) (H lk1 lf1 lv1 ch1 gr1 rs1)
  · rintro n p ⟨x1, lk1, lf1, lv1, ch1, gr1, rs1⟩ hp e ih
    dsimp only at e ih ⊢
    subst e
    refine br_f (nI_ge (b := 9) hp (by omega)) (th_y_pair hp Y fun lk2 lf2 ch2 Y2 => ?_)
    refine th_y_completeWith hp Y2 fun lk3 lf3 lv3 ch3 gr3 rs3 => ?_
    exact nm_r (nI_add _ _) (nm_r (nI_1 p) (ih (_, lk3, lf3, lv3, ch3, gr3, rs3) rfl))
