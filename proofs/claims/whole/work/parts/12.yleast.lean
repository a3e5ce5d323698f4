/-! the reference: leastWith -/
def th_V (base : Nat → Nat) (q : Nat) : Prop := th_srt q = true ∧ th_sz q = 3 ∧ ∀ k, k < 9 → base k + th_vec q k ≤ 4
def th_lv (h base : Nat → Nat) (q : Nat) : Nat := th_over (fun k => base k + th_vec q k) h
theorem th_over_ext {c c' h : Nat → Nat} (e : ∀ k, k < 9 → c k = c' k) : th_over c h = th_over c' h := by
  unfold th_over
  exact th_s9_ext fun k hk => by rw [e k hk]
theorem th_over_b {c h : Nat → Nat} (hc : ∀ k, k < 9 → c k ≤ 20) : th_over c h ≤ 180 := by
  have := th_s9_le (f := fun k => c k - h k) (g := fun _ => 20) (fun k hk => by have := hc k hk; omega)
  exact this
def th_AL (h base : Nat → Nat) (bd r T : Nat) : Prop := r ≤ bd ∧ (r = bd ∨ ∃ q, q < 3375 ∧ th_V base q ∧ r = th_lv h base q) ∧ ∀ q, q < T → th_V base q → r ≤ th_lv h base q
theorem th_AL_s {h base : Nat → Nat} {bd r T T' : Nat} (A : th_AL h base bd r T) (k : ∀ q, T ≤ q → q < T' → th_V base q → r ≤ th_lv h base q) : th_AL h base bd r T' := by
  refine ⟨A.1, A.2.1, fun q hq v => ?_⟩
  by_cases z : q < T
  · exact A.2.2 q z v
  · exact k q (by omega) hq v
theorem th_y_least_loop {post : Int32 → SY → Prop} {h base : Nat → Nat} {sz : Int32} {hv rs : Nat → Int32} {bd en : Nat} (hbd : bd ≤ 100) (hen : en ≤ 100)
    (H : ∀ (r : Nat) (lk' lf' lv' : Int32) (ch' gr' : Nat → Int32), r ≤ bd → (r = bd ∨ ∃ q, q < 3375 ∧ th_V base q ∧ r = th_lv h base q) → (r ≤ en ∨ ∀ q, q < 3375 → th_V base q → r ≤ th_lv h base q) →
      post (nI r) (sz, lk', lf', lv', hv, ch', gr', rs)) :
    ∀ (n r l g0 g1 e : Nat) (lk lf lv : Int32) (ch gr : Nat → Int32), th_mu l g0 g1 e < n → th_SS h base (fun _ => 4) l g0 g1 e lk lf lv hv ch gr → th_AL h base bd r (th_T l g0 g1 e) →
      wY_leastWith_14 post (nI en) n (nI r) sz lk lf lv hv ch gr rs := by
  intro n
  induction n with
  | zero => intro r l g0 g1 e lk lf lv ch gr hm; omega
  | succ n ih =>
    intro r l g0 g1 e lk lf lv ch gr hm S A
    have w := S.1
    have w1 := w.1
    have r100 : r ≤ 100 := by have := A.1; omega
    refine br_f (by rw [S.2.2.2.1]; exact nI_pos (by omega)) (pk_le r en (fun hle => H r lk lf lv ch gr A.1 A.2.1 (Or.inl hle)) (fun hlt => ?_))
    refine th_y_choose (Or.inl ⟨rfl, fun _ _ => rfl⟩) (fun _ _ => by decide) S ?_ ?_ ?_ ?_
    · rintro rfl rfl gr'
      refine br_t rfl ?_
      obtain ⟨m, rfl⟩ : ∃ m, n = m + 1 := ⟨n - 1, by unfold th_mu at hm; omega⟩
      refine br_t (by decide) (H r _ _ _ _ _ A.1 A.2.1 (Or.inr (th_AL_s A (T' := 3375) ?_).2.2))
      intro q a b v
      have := th_end (q := q) (by unfold th_T at *; simpa using a) b v.1
      have := v.2.1
      omega
    · rintro rfl hl lk' lf' lv' ch' gr' S'
      refine br_t rfl (ih r _ _ _ _ _ _ _ _ _ (by have := th_mu_up w hl; omega) S' (th_AL_s A ?_))
      intro q a b v
      have := th_up w hl a b v.1
      have := v.2.1
      omega
    · intro h13 hf gr' S'
      refine br_t rfl (ih r _ _ _ _ _ _ _ _ _ (by have := th_mu_next w; omega) S' (th_AL_s A ?_))
      intro q a b v
      refine absurd (fun k hk => ?_) hf
      have := th_gap (base := base) w h13 a b k
      have := v.2.2 k hk
      omega
    · intro h13 lk' lf' ch' gr' S'
      obtain ⟨o, eo⟩ : ∃ o, o = th_over (fun k => th_ch base l g0 g1 k + th_G e k) h := ⟨_, rfl⟩
      have elk : lk' = nI o := by rw [eo]; exact S'.2.2.1.2.2.1
      have o180 : o ≤ 180 := by rw [eo]; exact th_over_b fun k hk => (S'.2.2.1.2.1 k hk).2
      have gap : ∀ q, th_T l g0 g1 e ≤ q → q < th_T l g0 g1 (e + 1) → o ≤ th_lv h base q := by
        intro q a b
        rw [eo]
        exact th_over_mono fun k _ => th_gap (base := base) w h13 a b k
      refine br_f (by decide) (pk_le r o (fun hle => ?_) (fun hlo => ?_) rfl elk (by omega) (by omega))
      · refine br_t (by rw [elk]; exact nI_le hle (by omega)) (th_y_give S' fun lk2 lf2 ch2 S2 => ih r _ _ _ _ _ _ _ _ _ (by have := th_mu_next w; omega) S2 (th_AL_s A ?_))
        intro q a b v
        have := gap q a b
        omega
      · refine pk_eq l 2 (fun hl => ?_) (fun hl => ?_) S'.2.2.2.2.1 rfl (by omega) (by omega)
        · subst elk
          subst hl
          refine br_t (nI_le (Nat.le_refl o) (by omega)) (th_y_give S' fun lk2 lf2 ch2 S2 => ih o 2 g0 g1 (e + 1) _ _ _ _ _ (by have := th_mu_next w; omega) S2 ?_)
          obtain ⟨x1, x2, x3, x4, x5, x6⟩ := th_wq_s w h13
          refine ⟨by have := A.1; omega, Or.inr ⟨th_wq 2 g0 g1 e, x5, ⟨x1, x2, fun k hk => ?_⟩, ?_⟩, fun q hq v => ?_⟩
          · rw [x6]; exact S'.2.2.2.1 k hk
          · rw [eo]; unfold th_lv; exact th_over_ext fun k _ => (x6 base k).symm
          · by_cases z : q < th_T 2 g0 g1 e
            · have := A.2.2 q z v; omega
            · exact gap q (by omega) hq
        · refine br_f (by rw [elk]; exact nI_ge hlo (by omega)) (th_y_deeper (by omega) S' fun lv2 gr2 S2 => ih r _ _ _ _ _ _ _ _ _ (by have := th_mu_deep (l := l) (g0 := g0) (g1 := g1) (e := e) (by omega); omega) S2 (th_AL_s A ?_))
          intro q a b v
          have z := v.1
          rw [th_deep w h13 (by omega) a b] at z
          cases z
theorem th_y_leastWith {post : Int32 → SY → Prop} {h base : Nat → Nat} {sz lk lf lv : Int32} {hv ch gr rs : Nat → Int32} {bd en : Nat} (hbd : bd ≤ 100) (hen : en ≤ 100) (Y : th_YC h base lk lf hv ch) (hb4 : ∀ k, k < 9 → base k ≤ 4)
    (H : ∀ (r : Nat) (lk' lf' lv' : Int32) (ch' gr' : Nat → Int32), r ≤ bd → (r = bd ∨ ∃ q, q < 3375 ∧ th_V base q ∧ r = th_lv h base q) → (r ≤ en ∨ ∀ q, q < 3375 → th_V base q → r ≤ th_lv h base q) →
      post (nI r) (sz, lk', lf', lv', hv, ch', gr', rs)) :
    wpY_leastWith post (sz, lk, lf, lv, hv, ch, gr, rs) (nI bd) (nI en) := by
  refine nm_r (e' := upd gr 0 (-1)) rfl ⟨th_mu 0 0 0 0 + 1, ?_⟩
  refine th_y_least_loop hbd hen H _ bd 0 0 0 0 _ _ 0 _ _ (by omega) ⟨⟨by omega, by omega, by omega, by omega⟩, th_YC_ext (fun k hk => by simp [th_ch]) Y, fun k hk => ?_, rfl, by omega, by omega, ?_⟩ ⟨Nat.le_refl _, Or.inl rfl, ?_⟩
  · have := hb4 k hk
    simpa [th_ch] using this
  · rw [pk_us]; decide
  · intro q hq
    simp [th_T] at hq
