/-! the reference: distance, isNearer, wantedFrom, hopeFrom -/
theorem th_V_CH {h : Nat → Nat} {p q : Nat} (hp : p < 9) (hq : q < 3375) (v : th_V (th_pr p) q) : th_CH (th_code (th_cv q p)) ∧ th_lv h (th_pr p) q = th_miss h (th_code (th_cv q p)) := by
  have e : ∀ k, th_pr p k + th_vec q k = th_cv q p k := fun k => by unfold th_pr th_cv; omega
  have h4 : ∀ k, k < 9 → th_cv q p k ≤ 4 := fun k hk => by rw [← e]; exact v.2.2 k hk
  refine ⟨⟨q, p, hq, hp, th_val_iff.mpr ⟨v.1, v.2.1, h4⟩, rfl⟩, ?_⟩
  unfold th_lv th_miss
  exact th_over_ext fun k hk => by rw [th_dg_code h4 k hk, e]
theorem th_CH_V {h : Nat → Nat} {x : Nat} (c : th_CH x) : ∃ p q, p < 9 ∧ q < 3375 ∧ th_V (th_pr p) q ∧ th_lv h (th_pr p) q = th_miss h x := by
  obtain ⟨q, p, hq, hp, v, rfl⟩ := c
  obtain ⟨v1, v2, v3⟩ := th_val_iff.mp v
  have V : th_V (th_pr p) q := ⟨v1, v2, fun k hk => by have := v3 k hk; unfold th_pr; unfold th_cv at this; omega⟩
  exact ⟨p, q, hp, hq, V, (th_V_CH hp hq V).2⟩
theorem th_pr4 {p k : Nat} : th_pr p k ≤ 4 := by unfold th_pr; split <;> omega
theorem th_y_distance {post : Int32 → SY → Prop} {h : Nat → Nat} {sz lk lf lv : Int32} {hv ch gr rs : Nat → Int32} (Y : th_YH h sz hv)
    (H : ∀ (lk' lf' lv' : Int32) (ch' gr' : Nat → Int32), post (nI (th_dist h)) (sz, lk', lf', lv', hv, ch', gr', rs)) :
    wpY_distance post (sz, lk, lf, lv, hv, ch, gr, rs) := by
  have s12 := Y.2.2.2
  have go : ∀ en, en ≤ 11 - th_s9 h → ∃ n26, wY_distance_26 post (nI en) n26 (nI 12) (nI 0) sz lk lf lv hv ch gr rs := by
    intro en hen
    refine loop_0 (fun n i (s : Int32 × Int32 × Int32 × Int32 × (Nat → Int32) × (Nat → Int32)) => wY_distance_26 post (nI en) n s.1 (nI i) sz s.2.1 s.2.2.1 s.2.2.2.1 hv s.2.2.2.2.1 s.2.2.2.2.2 rs)
      (fun i s => ∃ r, s.1 = nI r ∧ r ≤ 12 ∧ (r = 12 ∨ ∃ p q, p < 9 ∧ q < 3375 ∧ th_V (th_pr p) q ∧ r = th_lv h (th_pr p) q) ∧ ∀ p, p < i → r ≤ en ∨ ∀ q, q < 3375 → th_V (th_pr p) q → r ≤ th_lv h (th_pr p) q)
      9 (nI 12, lk, lf, lv, ch, gr) ⟨12, rfl, by omega, Or.inl rfl, fun p hp => absurd hp (by omega)⟩ ?_ ?_
    · rintro n ⟨x1, lk1, lf1, lv1, ch1, gr1⟩ ⟨r, e1, r12, ex, al⟩
      dsimp only at e1
      subst e1
      have ge := th_dist_ge h
      have d11 := th_dist_11 h
      have er : r = th_dist h := by
        obtain ⟨x, cx, mx⟩ := th_dist_ex h
        obtain ⟨p, q, hp, hq, V, ev⟩ := th_CH_V (h := h) cx
        have up : r ≤ th_dist h := by
          rcases al p hp with z | z
          · omega
          · have := z q hq V; omega
        rcases ex with z | ⟨p', q', hp', hq', V', ev'⟩
        · omega
        · obtain ⟨c1, c2⟩ := th_V_CH (h := h) hp' hq' V'
          have := th_dist_le (h := h) c1
          omega
      rw [er]
      exact br_t (nI_le (a := 9) (b := 9) (by omega) (by omega)) (H lk1 lf1 lv1 ch1 gr1)
    · rintro n p ⟨x1, lk1, lf1, lv1, ch1, gr1⟩ hp ⟨r, e1, r12, ex, al⟩ ih
      dsimp only at e1 ih ⊢
      subst e1
      refine br_f (nI_ge (b := 9) hp (by omega)) (th_y_pair hp Y fun lk2 lf2 ch2 Y2 => ?_)
      refine th_y_leastWith (by omega) (by omega) Y2 (fun k _ => th_pr4) fun r' lk3 lf3 lv3 ch3 gr3 a1 a2 a3 => ?_
      refine nm_r (nI_1 p) (ih (nI r', lk3, lf3, lv3, ch3, gr3) ⟨r', rfl, by omega, ?_, ?_⟩)
      · rcases a2 with z | ⟨q, hq, V, e⟩
        · rw [z]; exact ex
        · exact Or.inr ⟨p, q, hp, hq, V, e⟩
      · intro p' hp'
        by_cases z : p' = p
        · rw [z]; exact a3
        · rcases al p' (by omega) with y | y
          · exact Or.inl (by omega)
          · exact Or.inr fun q hq V => by have := y q hq V; omega
  refine pk_le 11 (th_s9 h) (fun z => ?_) (fun z => ?_) rfl Y.2.2.1 (by omega) (by omega)
  · exact go 0 (by omega)
  · refine nm_r (e' := nI (11 - th_s9 h)) (by rw [Y.2.2.1]; exact pk_sub (a := 11) (by omega)) (go _ (Nat.le_refl _))
theorem th_dist_lt {h : Nat → Nat} {d : Nat} : th_dist h < d ↔ ∃ p q, p < 9 ∧ q < 3375 ∧ th_V (th_pr p) q ∧ th_lv h (th_pr p) q < d := by
  constructor
  · intro l
    obtain ⟨x, cx, mx⟩ := th_dist_ex h
    obtain ⟨p, q, hp, hq, V, ev⟩ := th_CH_V (h := h) cx
    exact ⟨p, q, hp, hq, V, by omega⟩
  · rintro ⟨p, q, hp, hq, V, l⟩
    obtain ⟨c1, c2⟩ := th_V_CH (h := h) hp hq V
    have := th_dist_le (h := h) c1
    omega
theorem th_y_isNearer {post : Int32 → SY → Prop} {h : Nat → Nat} {sz lk lf lv : Int32} {hv ch gr rs : Nat → Int32} {d : Nat} (hd : d ≤ 100) (Y : th_YH h sz hv)
    (H1 : th_dist h < d → ∀ (lk' lf' lv' : Int32) (ch' gr' : Nat → Int32), post 1 (sz, lk', lf', lv', hv, ch', gr', rs))
    (H0 : ¬ th_dist h < d → ∀ (lk' lf' lv' : Int32) (ch' gr' : Nat → Int32), post 0 (sz, lk', lf', lv', hv, ch', gr', rs)) :
    wpY_isNearer post (sz, lk, lf, lv, hv, ch, gr, rs) (nI d) := by
  refine loop_0 (fun n i (s : Int32 × Int32 × Int32 × (Nat → Int32) × (Nat → Int32)) => wY_isNearer_2 post (nI d) n (nI i) sz s.1 s.2.1 s.2.2.1 hv s.2.2.2.1 s.2.2.2.2 rs)
    (fun i _ => ∀ p q, p < i → q < 3375 → th_V (th_pr p) q → d ≤ th_lv h (th_pr p) q) 9 (lk, lf, lv, ch, gr) (fun p q hp => absurd hp (by omega)) ?_ ?_
  · rintro n ⟨lk1, lf1, lv1, ch1, gr1⟩ hI
    refine br_t (nI_le (a := 9) (b := 9) (by omega) (by omega)) (H0 (fun z => ?_) lk1 lf1 lv1 ch1 gr1)
    obtain ⟨p, q, hp, hq, V, l⟩ := th_dist_lt.mp z
    have := hI p q hp hq V
    omega
  · rintro n p ⟨lk1, lf1, lv1, ch1, gr1⟩ hp hI ih
    dsimp only at ih ⊢
    refine br_f (nI_ge (b := 9) hp (by omega)) (th_y_pair hp Y fun lk2 lf2 ch2 Y2 => ?_)
    have nx : (∀ q, q < 3375 → th_V (th_pr p) q → d ≤ th_lv h (th_pr p) q) → ∀ p' q, p' < p + 1 → q < 3375 → th_V (th_pr p') q → d ≤ th_lv h (th_pr p') q := by
      intro a p' q hp' hq V
      by_cases z : p' = p
      · rw [z] at V ⊢; exact a q hq V
      · exact hI p' q (by omega) hq V
    have b180 := th_over_b (h := h) (c := th_pr p) fun k _ => by have := th_pr4 (p := p) (k := k); omega
    refine pk_le d (th_over (th_pr p) h) (fun hle => ?_) (fun hlt => ?_) rfl Y2.2.2.1 (by omega) (by omega)
    · refine br_t (nI_le (Nat.le_refl d) (by omega)) (nm_r (nI_1 p) (ih (lk2, lf2, lv1, ch2, gr1) (nx fun q hq V => ?_)))
      have : th_over (th_pr p) h ≤ th_lv h (th_pr p) q := th_over_mono fun k _ => by omega
      omega
    · rw [th_s1 (by omega)]
      refine th_y_leastWith hd (by omega) Y2 (fun k _ => th_pr4) fun r lk3 lf3 lv3 ch3 gr3 a1 a2 a3 => ?_
      refine pk_le d r (fun hle => ?_) (fun hlr => ?_)
      · refine nm_r (nI_1 p) (ih (lk3, lf3, lv3, ch3, gr3) (nx fun q hq V => ?_))
        rcases a3 with z | z
        · omega
        · have := z q hq V; omega
      · refine H1 (th_dist_lt.mpr ?_) lk3 lf3 lv3 ch3 gr3
        rcases a2 with z | ⟨q, hq, V, e⟩
        · omega
        · exact ⟨p, q, hp, hq, V, by omega⟩
/-- masks -/
def th_WM (h : Nat → Nat) (n : Nat) (m : Int32) : Prop := ∀ i, i < 32 → (bt m i = true ↔ i < n ∧ th_want h i = true)
theorem th_WM_0 {h : Nat → Nat} : th_WM h 0 0 := fun i _ => by
  rw [b_0]
  exact ⟨fun z => (by cases z), fun z => absurd z.1 (by omega)⟩
theorem th_WM_s {h : Nat → Nat} {n : Nat} {m : Int32} (hn : n < 9) (W : th_WM h n m) (w : th_want h n = true) : th_WM h (n + 1) (m ||| ((1 : Int32) <<< (nI n &&& 31))) := by
  intro i hi
  rw [b_or, th_bp (by omega) hi, Bool.or_eq_true, W i hi, decide_eq_true_eq]
  constructor
  · rintro (z | z)
    · exact ⟨by omega, z.2⟩
    · exact ⟨by omega, by rw [z]; exact w⟩
  · rintro ⟨z, y⟩
    by_cases e : i = n
    · exact Or.inr e
    · exact Or.inl ⟨by omega, y⟩
theorem th_WM_n {h : Nat → Nat} {n : Nat} {m : Int32} (W : th_WM h n m) (w : ¬ th_want h n = true) : th_WM h (n + 1) m := by
  intro i hi
  rw [W i hi]
  constructor
  · rintro ⟨z, y⟩
    exact ⟨by omega, y⟩
  · rintro ⟨z, y⟩
    refine ⟨?_, y⟩
    by_cases e : i = n
    · rw [e] at y; exact absurd y w
    · omega
def th_M (h : Nat → Nat) : Int32 := th_mk (th_want h) 9
theorem th_WM_M {h : Nat → Nat} : ∀ n, n ≤ 9 → th_WM h n (th_mk (th_want h) n)
  | 0, _ => th_WM_0
  | n + 1, hn => by
    unfold th_mk
    split
    · rename_i z; exact th_WM_s (by omega) (th_WM_M n (by omega)) z
    · rename_i z; exact th_WM_n (th_WM_M n (by omega)) z
theorem th_WM_u {h : Nat → Nat} {m : Int32} (W : th_WM h 9 m) : m = th_M h := by
  apply b_ext
  intro i hi
  have a := W i hi
  have b := th_WM_M (h := h) 9 (by omega) i hi
  unfold th_M
  cases z : bt m i with
  | true => exact (b.mpr (a.mp z)).symm
  | false =>
    cases y : bt (th_mk (th_want h) 9) i with
    | false => rfl
    | true => rw [a.mpr (b.mp y)] at z; cases z
theorem th_YH_inc {h : Nat → Nat} {sz : Int32} {hv : Nat → Int32} {k : Nat} (hk : k < 9) (Y : th_YH h sz hv) (h4 : h k < 4) (s : th_s9 h ≤ 11) : th_YH (th_inc h k) (nI (th_s9 h + 1)) (upd hv k (nI (h k + 1))) := by
  have e := th_s9_put (fun _ y => y) h (h k + 1) k hk
  have e' : th_s9 (th_inc h k) = th_s9 (fun j => th_put h k (h k + 1) j) := th_s9_ext fun j _ => th_inc_put j
  have es : th_s9 (th_inc h k) = th_s9 h + 1 := by
    have : th_s9 (fun j => h j) = th_s9 h := rfl
    rw [e']; omega
  refine ⟨fun j hj => ?_, fun j hj => ?_, by rw [es], by omega⟩
  · by_cases z : j = k
    · subst z; rw [pk_us]; unfold th_inc; rw [if_pos rfl]
    · rw [pk_un z]; unfold th_inc; rw [if_neg z]; exact Y.1 j hj
  · have := Y.2.1 j hj
    unfold th_inc
    split
    · rename_i z; rw [z] at *; omega
    · omega
theorem th_upd2 {f : Nat → Int32} {k : Nat} {x y : Int32} (e : y = f k) : upd (upd f k x) k y = f := by
  funext j
  by_cases z : j = k
  · subst z; rw [pk_us]; exact e
  · rw [pk_un z, pk_un z]
theorem th_y_wantedFrom {post : Int32 → SY → Prop} {h : Nat → Nat} {sz lk lf lv : Int32} {hv ch gr rs : Nat → Int32} (Y : th_YH h sz hv) (s11 : th_s9 h ≤ 11)
    (H : ∀ (lk' lf' lv' : Int32) (ch' gr' : Nat → Int32), post (th_M h) (sz, lk', lf', lv', hv, ch', gr', rs)) :
    wpY_wantedFrom post (sz, lk, lf, lv, hv, ch, gr, rs) (nI (th_dist h)) := by
  have d11 := th_dist_11 h
  refine loop_0 (fun n i (s : Int32 × Int32 × Int32 × Int32 × (Nat → Int32) × (Nat → Int32)) => wY_wantedFrom_4 post (nI (th_dist h)) n s.1 (nI i) sz s.2.1 s.2.2.1 s.2.2.2.1 hv s.2.2.2.2.1 s.2.2.2.2.2 rs)
    (fun i s => th_WM h i s.1) 9 (0, lk, lf, lv, ch, gr) th_WM_0 ?_ ?_
  · rintro n ⟨x2, lk1, lf1, lv1, ch1, gr1⟩ W
    dsimp only at W ⊢
    rw [th_WM_u W]
    exact br_t (nI_le (a := 9) (b := 9) (by omega) (by omega)) (H lk1 lf1 lv1 ch1 gr1)
  · rintro n k ⟨x2, lk1, lf1, lv1, ch1, gr1⟩ hk W ih
    dsimp only at W ih ⊢
    have ek : (nI k).toNatClampNeg = k := nI_clamp (by omega)
    have in9 : vp_in (nI k) 9 := vp_in_nI hk (by omega)
    have h4 := Y.2.1 k hk
    have near : th_dist (th_inc h k) < th_dist h ↔ th_want h k = true := by
      rw [← th_near hk, th_dist_ext fun j _ => th_inc_put j]
    refine br_f (nI_ge (b := 9) hk (by omega)) ⟨in9, pk_le 4 (h k) (fun z => ?_) (fun z => ?_) rfl (by rw [ek]; exact Y.1 k hk) (by omega) (by omega)⟩
    · refine nm_r (nI_1 k) (ih (x2, lk1, lf1, lv1, ch1, gr1) (th_WM_n W fun w => ?_))
      have := th_want_4 w
      omega
    · have back : ∀ (x2 lk2 lf2 lv2 : Int32) (ch2 gr2 : Nat → Int32), th_WM h (k + 1) x2 →
          wY_wantedFrom_44 post (wY_wantedFrom_4 post (nI (th_dist h)) n) (nI (th_dist h)) x2 (nI k) (nI (th_s9 h + 1)) lk2 lf2 lv2 (upd hv k (nI (h k + 1))) ch2 gr2 rs := by
        intro x2 lk2 lf2 lv2 ch2 gr2 W2
        refine ⟨in9, in9, nm_r (e' := hv) ?_ (nm_r (e' := sz) (by rw [pk_m1, Y.2.2.1]) (nm_r (nI_1 k) (ih (x2, lk2, lf2, lv2, ch2, gr2) W2)))⟩
        rw [ek, pk_us, pk_m1]
        exact th_upd2 (Y.1 k hk).symm
      refine ⟨in9, in9, nm_r (e' := upd hv k (nI (h k + 1))) (by rw [ek, Y.1 k hk, nI_1]) (nm_r (e' := nI (th_s9 h + 1)) (by rw [Y.2.2.1, nI_1]) ?_)⟩
      refine th_y_isNearer (by omega) (th_YH_inc hk Y z s11) (fun l lk2 lf2 lv2 ch2 gr2 => ?_) (fun l lk2 lf2 lv2 ch2 gr2 => ?_)
      · exact br_f (by decide) (nm_e (back _ lk2 lf2 lv2 ch2 gr2 (th_WM_s hk W (near.mp l))))
      · exact br_t rfl (back _ lk2 lf2 lv2 ch2 gr2 (th_WM_n W fun w => l (near.mpr w)))
/-- the hope, as both sum it up -/
def th_hs (m : Int32) (a : Nat → Int32) : Nat → Int32
  | 0 => 0
  | n + 1 => if bt m n then th_hs m a n + (4 - a n) else th_hs m a n
theorem th_hs_ext {m : Int32} {a b : Nat → Int32} : ∀ n, (∀ k, k < n → a k = b k) → th_hs m a n = th_hs m b n
  | 0, _ => rfl
  | n + 1, h => by
    unfold th_hs
    rw [th_hs_ext n (fun k hk => h k (by omega)), h n (by omega)]
def th_hpv (h : Nat → Nat) : Int32 := th_hs (th_M h) (fun k => nI (h k)) 9
theorem th_y_hopeFrom {post : Int32 → SY → Prop} {h : Nat → Nat} {sz lk lf lv : Int32} {hv ch gr rs : Nat → Int32} (Y : th_YH h sz hv) (s11 : th_s9 h ≤ 11)
    (H : ∀ (lk' lf' lv' : Int32) (ch' gr' : Nat → Int32), post (th_hpv h) (sz, lk', lf', lv', hv, ch', gr', rs)) :
    wpY_hopeFrom post (sz, lk, lf, lv, hv, ch, gr, rs) (nI (th_dist h)) := by
  unfold wpY_hopeFrom
  dsimp only
  refine th_y_wantedFrom Y s11 fun lk1 lf1 lv1 ch1 gr1 => ?_
  refine loop_0 (fun n i s => wY_hopeFrom_11 post (th_M h) sz lk1 lf1 lv1 hv ch1 gr1 rs n s (nI i)) (fun i s => s = th_hs (th_M h) hv i) 9 0 rfl ?_ ?_
  · intro n s e
    have := H lk1 lf1 lv1 ch1 gr1
    unfold th_hpv at this
    rw [← th_hs_ext 9 Y.1, ← e] at this
    exact br_t (nI_le (a := 9) (b := 9) (by omega) (by omega)) this
  · intro n k s hk e ih
    have ek : (nI k).toNatClampNeg = k := nI_clamp (by omega)
    refine br_f (nI_ge (b := 9) hk (by omega)) (br_c (fun z => ?_) (fun z => ?_))
    · refine ⟨vp_in_nI hk (by omega), nm_r (e' := s + (4 - hv k)) (by rw [ek]) (nm_r (nI_1 k) (ih _ ?_))⟩
      unfold th_hs
      rw [if_pos ((th_bshr (by omega)).mp z), e]
    · refine nm_r (nI_1 k) (ih _ ?_)
      unfold th_hs
      rw [if_neg (fun y => z ((th_bshr (by omega)).mpr y)), e]
