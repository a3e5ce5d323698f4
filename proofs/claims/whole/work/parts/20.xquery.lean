/-! the class: the questions -/
def th_RG (gt gz : Nat → Int32) : Prop := ∀ i, i < 680 → gz i = nI (th_sz (th_qi i)) ∧ ∀ k, k < 9 → gt (i * 9 + k) = nI (th_vec (th_qi i) k)
def th_RC (cn : Int32) (ct : Nat → Int32) (nc m : Nat) (l : Nat → Nat) : Prop :=
  nc = 45360 ∧ m ≤ 5040 ∧ cn = nI m ∧ (∀ i j, i < m → j < m → l i = l j → i = j) ∧ (∀ x, th_CH x ↔ ∃ i, i < m ∧ l i = x) ∧ ∀ i, i < m → ∀ k, k < 9 → ct (i * 9 + k) = nI (th_dg (l i) k)
def th_XH (h : Nat → Nat) (t : Nat → Int32) : Prop := (∀ k, k < 9 → t k = nI (h k)) ∧ ∀ k, k < 9 → h k ≤ 4
theorem th_sle {a b : Nat} (ha : a < 2 ^ 30) (hb : b < 2 ^ 30) (h : a ≤ b) : nI a - nI b ≤ 0 := by
  rw [Int32.le_iff_toInt_le, pk_sub_toInt ha hb, show (0 : Int32).toInt = 0 from by decide]
  omega
theorem th_x_missingTo {post : Int32 → Prop} {h : Nat → Nat} {hd gs cn : Int32} {t gt gz ct : Nat → Int32} {ls : Nat → Int64} {nc m : Nat} {l : Nat → Nat} {i : Nat} (X : th_XH h t) (C : th_RC cn ct nc m l) (hi : i < m)
    (H : post (nI (th_miss h (l i)))) : wpX_missingTo post (hd, gs, cn, t, gt, gz, ct, ls, nc) (nI i) := by
  obtain ⟨rfl, m5, _, _, _, cc⟩ := C
  refine nm_r (th_m9 i) ?_
  refine loop_0 (fun n k s => wX_missingTo_10 post (nI (i * 9)) hd gs cn t gt gz ct ls 45360 n s (nI k)) (fun k s => s = nI (th_ps (fun k => th_dg (l i) k - h k) k)) 9 0 rfl ?_ ?_
  · intro n s e
    rw [th_ps9] at e
    subst e
    exact br_t (nI_le (a := 9) (b := 9) (by omega) (by omega)) H
  · intro n k s hk e ih
    subst e
    have ek : (nI k).toNatClampNeg = k := nI_clamp (by omega)
    have ei : nI (i * 9) + nI k = nI (i * 9 + k) := nI_add _ _
    have ec : (nI (i * 9 + k)).toNatClampNeg = i * 9 + k := nI_clamp (by omega)
    have d4 := th_dg_le (l i) k
    have h4 := X.2 k hk
    refine br_f (nI_ge (b := 9) hk (by omega)) ?_
    rw [ei]
    refine ⟨vp_in_nI (by omega) (by omega), vp_in_nI hk (by omega), nm_r (e' := nI (th_dg (l i) k) - nI (h k)) (by rw [ec, ek, cc i hi k hk, X.1 k hk]) ?_⟩
    by_cases z : th_dg (l i) k ≤ h k
    · refine br_t (th_sle (by omega) (by omega) z) (nm_r (nI_1 k) (ih _ ?_))
      show nI (th_ps _ k) = nI (th_ps _ k + (th_dg (l i) k - h k))
      rw [Nat.sub_eq_zero_of_le z]; rfl
    · rw [pk_sub (by omega)]
      exact br_f (nI_nle (by omega) (by omega)) (nm_r (nI_add _ _) (nm_r (nI_1 k) (ih _ rfl)))
theorem th_x_least {post : Int32 → Prop} {h : Nat → Nat} {hd gs cn : Int32} {t gt gz ct : Nat → Int32} {ls : Nat → Int64} {nc m : Nat} {l : Nat → Nat} (X : th_XH h t) (C : th_RC cn ct nc m l)
    (H : post (nI (th_dist h))) : wpX_leastMissing post (hd, gs, cn, t, gt, gz, ct, ls, nc) := by
  have C' := C
  obtain ⟨_, m5, ecn, _, mem, _⟩ := C'
  refine loop_0 (fun n i s => wX_leastMissing_5 post hd gs cn t gt gz ct ls nc n s (nI i)) (fun i s => ∃ r, s = nI r ∧ r ≤ 11 ∧ (r = 11 ∨ ∃ j, j < i ∧ r = th_miss h (l j)) ∧ ∀ j, j < i → r ≤ th_miss h (l j)) m 11 ⟨11, rfl, by omega, Or.inl rfl, fun j hj => absurd hj (by omega)⟩ ?_ ?_
  · rintro n s ⟨r, rfl, r11, ex, al⟩
    have e : r = th_dist h := by
      obtain ⟨x, cx, mx⟩ := th_dist_ex h
      obtain ⟨j, hj, ej⟩ := (mem x).mp cx
      have a1 := al j hj
      rw [ej] at a1
      have d11 := th_dist_11 h
      rcases ex with z | ⟨j', hj', z⟩
      · omega
      · have := th_dist_le (h := h) ((mem (l j')).mpr ⟨j', hj', rfl⟩)
        omega
    rw [e]
    exact br_t (by rw [ecn]; exact nI_le (Nat.le_refl m) (by omega)) H
  · rintro n i s hi ⟨r, rfl, r11, ex, al⟩ ih
    have nx : ∀ r', r' ≤ 11 → r' ≤ r → r' ≤ th_miss h (l i) → (r' = r ∨ r' = th_miss h (l i)) → ∃ r2, nI r' = nI r2 ∧ r2 ≤ 11 ∧ (r2 = 11 ∨ ∃ j, j < i + 1 ∧ r2 = th_miss h (l j)) ∧ ∀ j, j < i + 1 → r2 ≤ th_miss h (l j) := by
      intro r' a b c d
      refine ⟨r', rfl, a, ?_, fun j hj => ?_⟩
      · rcases d with d | d
        · rcases ex with z | ⟨j, hj, z⟩
          · exact Or.inl (by omega)
          · exact Or.inr ⟨j, by omega, by omega⟩
        · exact Or.inr ⟨i, by omega, d⟩
      · by_cases z : j = i
        · rw [z]; exact c
        · have := al j (by omega); omega
    have b180 := th_over_b (c := th_dg (l i)) (h := h) fun k _ => by have := th_dg_le (l i) k; omega
    have b' : th_miss h (l i) ≤ 180 := b180
    refine br_f (by rw [ecn]; exact nI_ge hi (by omega)) (th_x_missingTo X C hi (pk_le r (th_miss h (l i)) (fun z => ?_) (fun z => ?_)))
    · exact nm_r (nI_1 i) (ih _ (nx r r11 (Nat.le_refl _) z (Or.inl rfl)))
    · exact nm_r (nI_1 i) (ih _ (nx _ (by omega) (by omega) (Nat.le_refl _) (Or.inr rfl)))
theorem th_x_kindsTo {post : Int32 → Prop} {h : Nat → Nat} {hd gs cn : Int32} {t gt gz ct : Nat → Int32} {ls : Nat → Int64} {nc m : Nat} {l : Nat → Nat} {i : Nat} (X : th_XH h t) (C : th_RC cn ct nc m l) (hi : i < m)
    (H : ∀ r : Int32, (∀ b, b < 32 → (bt r b = true ↔ b < 9 ∧ h b < th_dg (l i) b)) → post r) : wpX_kindsMissingTo post (hd, gs, cn, t, gt, gz, ct, ls, nc) (nI i) := by
  obtain ⟨rfl, m5, _, _, _, cc⟩ := C
  refine nm_r (th_m9 i) ?_
  refine loop_0 (fun n k s => wX_kindsMissingTo_10 post (nI (i * 9)) hd gs cn t gt gz ct ls 45360 n s (nI k)) (fun k s => ∀ b, b < 32 → (bt s b = true ↔ b < k ∧ h b < th_dg (l i) b)) 9 0 ?_ ?_ ?_
  · intro b _
    rw [b_0]
    exact ⟨fun z => (by cases z), fun z => absurd z.1 (by omega)⟩
  · intro n s e
    exact br_t (nI_le (a := 9) (b := 9) (by omega) (by omega)) (H s e)
  · intro n k s hk e ih
    have ek : (nI k).toNatClampNeg = k := nI_clamp (by omega)
    have ei : nI (i * 9) + nI k = nI (i * 9 + k) := nI_add _ _
    have ec : (nI (i * 9 + k)).toNatClampNeg = i * 9 + k := nI_clamp (by omega)
    have d4 := th_dg_le (l i) k
    have h4 := X.2 k hk
    refine br_f (nI_ge (b := 9) hk (by omega)) ?_
    rw [ei]
    refine ⟨vp_in_nI (by omega) (by omega), vp_in_nI hk (by omega), ?_⟩
    rw [ec, ek, cc i hi k hk, X.1 k hk]
    refine pk_le (th_dg (l i) k) (h k) (fun z => nm_r (nI_1 k) (ih _ fun b hb => ?_)) (fun z => nm_e (nm_r (nI_1 k) (ih _ fun b hb => ?_)))
    · rw [e b hb]
      constructor
      · rintro ⟨y, x⟩; exact ⟨by omega, x⟩
      · rintro ⟨y, x⟩
        refine ⟨?_, x⟩
        by_cases v : b = k
        · rw [v] at x; omega
        · omega
    · rw [b_or, th_bp (by omega) hb, Bool.or_eq_true, e b hb, decide_eq_true_eq]
      constructor
      · rintro (⟨y, x⟩ | y)
        · exact ⟨by omega, x⟩
        · rw [y]; exact ⟨by omega, z⟩
      · rintro ⟨y, x⟩
        by_cases v : b = k
        · exact Or.inr v
        · exact Or.inl ⟨by omega, x⟩
theorem th_x_kindsAt {post : Int32 → Prop} {h : Nat → Nat} {hd gs cn : Int32} {t gt gz ct : Nat → Int32} {ls : Nat → Int64} {nc m : Nat} {l : Nat → Nat} (X : th_XH h t) (C : th_RC cn ct nc m l)
    (H : post (th_M h)) : wpX_kindsMissingAt post (hd, gs, cn, t, gt, gz, ct, ls, nc) (nI (th_dist h)) := by
  have C' := C
  obtain ⟨_, m5, ecn, _, mem, _⟩ := C'
  have d11 := th_dist_11 h
  refine loop_0 (fun n i s => wX_kindsMissingAt_4 post (nI (th_dist h)) hd gs cn t gt gz ct ls nc n s (nI i)) (fun i s => ∀ b, b < 32 → (bt s b = true ↔ b < 9 ∧ ∃ j, j < i ∧ th_miss h (l j) = th_dist h ∧ h b < th_dg (l j) b)) m 0 ?_ ?_ ?_
  · intro b _
    rw [b_0]
    exact ⟨fun z => (by cases z), fun ⟨_, j, hj, _⟩ => absurd hj (by omega)⟩
  · intro n s e
    have W : th_WM h 9 s := by
      intro b hb
      rw [e b hb, th_want_iff]
      constructor
      · rintro ⟨y, j, hj, a, c⟩
        exact ⟨y, l j, (mem _).mpr ⟨j, hj, rfl⟩, a, c⟩
      · rintro ⟨y, x, cx, a, c⟩
        obtain ⟨j, hj, ej⟩ := (mem x).mp cx
        exact ⟨y, j, hj, by rw [ej]; exact a, by rw [ej]; exact c⟩
    rw [th_WM_u W]
    exact br_t (by rw [ecn]; exact nI_le (Nat.le_refl m) (by omega)) H
  · intro n i s hi e ih
    have b' : th_miss h (l i) ≤ 180 := th_over_b (c := th_dg (l i)) (h := h) fun k _ => by have := th_dg_le (l i) k; omega
    refine br_f (by rw [ecn]; exact nI_ge hi (by omega)) (th_x_missingTo X C hi (pk_eq (th_miss h (l i)) (th_dist h) (fun z => ?_) (fun z => ?_)))
    · refine th_x_kindsTo X C hi fun r er => nm_e (nm_r (nI_1 i) (ih _ fun b hb => ?_))
      rw [b_or, Bool.or_eq_true, e b hb, er b hb]
      constructor
      · rintro (⟨y, j, hj, a, c⟩ | ⟨y, c⟩)
        · exact ⟨y, j, by omega, a, c⟩
        · exact ⟨y, i, by omega, z, c⟩
      · rintro ⟨y, j, hj, a, c⟩
        by_cases v : j = i
        · subst v; exact Or.inr ⟨y, c⟩
        · exact Or.inl ⟨y, j, by omega, a, c⟩
    · refine nm_r (nI_1 i) (ih _ fun b hb => ?_)
      rw [e b hb]
      constructor
      · rintro ⟨y, j, hj, a, c⟩
        exact ⟨y, j, by omega, a, c⟩
      · rintro ⟨y, j, hj, a, c⟩
        by_cases v : j = i
        · subst v; exact absurd a z
        · exact ⟨y, j, by omega, a, c⟩
theorem th_x_hopeAt {post : Int32 → Prop} {h : Nat → Nat} {hd gs cn : Int32} {t gt gz ct : Nat → Int32} {ls : Nat → Int64} {nc m : Nat} {l : Nat → Nat} (X : th_XH h t) (C : th_RC cn ct nc m l)
    (H : post (th_hpv h)) : wpX_hopeAt post (hd, gs, cn, t, gt, gz, ct, ls, nc) (nI (th_dist h)) := by
  unfold wpX_hopeAt
  refine th_x_kindsAt X C ?_
  refine loop_0 (fun n i s => wX_hopeAt_11 post (th_M h) hd gs cn t gt gz ct ls nc n s (nI i)) (fun i s => s = th_hs (th_M h) t i) 9 0 rfl ?_ ?_
  · intro n s e
    unfold th_hpv at H
    rw [← th_hs_ext 9 X.1, ← e] at H
    exact br_t (nI_le (a := 9) (b := 9) (by omega) (by omega)) H
  · intro n k s hk e ih
    have ek : (nI k).toNatClampNeg = k := nI_clamp (by omega)
    refine br_f (nI_ge (b := 9) hk (by omega)) (br_c (fun z => ?_) (fun z => ?_))
    · refine nm_r (nI_1 k) (ih _ ?_)
      unfold th_hs
      rw [(th_band (by omega)).mp z, e]
      rfl
    · refine ⟨vp_in_nI hk (by omega), nm_r (e' := s + (4 - t k)) (by rw [ek]) (nm_r (nI_1 k) (ih _ ?_))⟩
      have zt : bt (th_M h) k = true := by
        cases y : bt (th_M h) k with
        | true => rfl
        | false => exact absurd ((th_band (by omega)).mpr y) z
      unfold th_hs
      rw [if_pos zt, e]
theorem th_k4 {k : Nat} (hk : k < 9) : ¬ nI k = -4 := by
  have : ∀ k, k < 9 → ¬ nI k = -4 := by decide +kernel
  exact this k hk
theorem th_x_best {post : Int32 → SX → Prop} {h : Nat → Nat} {hd gs cn : Int32} {t gt gz ct : Nat → Int32} {ls : Nat → Int64} {nc m : Nat} {l : Nat → Nat} (X : th_XH h t) (C : th_RC cn ct nc m l)
    (H : post (th_bv h) (hd, gs, cn, t, gt, gz, ct, ls, nc)) : wpX_best post (hd, gs, cn, t, gt, gz, ct, ls, nc) := by
  refine loop_0 (fun n i (s : Int32 × Int32 × Int32) => wX_best_10 post hd gs cn nc n s.1 s.2.1 s.2.2 (nI i) t gt gz ct ls)
    (fun i s => (th_bs h i = none ∧ s.1 = -4) ∨ (th_bs h i = some (s.1, s.2.1, s.2.2) ∧ ¬ s.1 = -4)) 9 (-4, 0, 0) (Or.inl ⟨rfl, rfl⟩) ?_ ?_
  · rintro n ⟨x1, x2, x3⟩ I
    dsimp only at I ⊢
    have e : x1 = th_bv h := by
      unfold th_bv
      rcases I with ⟨a, b⟩ | ⟨a, b⟩
      · rw [a, b]
      · rw [a]
    rw [e]
    exact br_t (nI_le (a := 9) (b := 9) (by omega) (by omega)) H
  · rintro n k ⟨x1, x2, x3⟩ hk I ih
    dsimp only at I ih ⊢
    have ek : (nI k).toNatClampNeg = k := nI_clamp (by omega)
    have in9 : vp_in (nI k) 9 := vp_in_nI hk (by omega)
    have h4 := X.2 k hk
    refine br_f (nI_ge (b := 9) hk (by omega)) ⟨in9, pk_le (h k) 0 (fun z => ?_) (fun z => ?_) (by rw [ek]; exact X.1 k hk) rfl (by omega) (by omega)⟩
    · refine nm_r (nI_1 k) (ih (x1, x2, x3) ?_)
      dsimp only
      rw [th_bs_0 (by omega)]
      exact I
    · have X' : th_XH (th_dec h k) (upd t k (nI (h k - 1))) := ⟨th_dec_upd X.1, fun j hj => by have := X.2 j hj; unfold th_dec; omega⟩
      refine ⟨in9, in9, nm_r (e' := upd t k (nI (h k - 1))) (by rw [ek, X.1 k hk, th_s1 z]) ?_⟩
      refine th_x_least X' C (th_x_hopeAt X' C ⟨in9, in9, nm_r (e' := t) ?_ ?_⟩)
      · rw [ek, pk_us, nI_1]
        exact th_upd2 (by rw [X.1 k hk]; congr 1; omega)
      have new : th_bs h (k + 1) = some (nI k, nI (th_dist (th_dec h k)), th_hpv (th_dec h k)) →
          wX_best_87 post (wX_best_10 post hd gs cn nc n) (nI k) (nI (th_dist (th_dec h k))) (th_hpv (th_dec h k)) hd gs cn t gt gz ct ls nc := fun a =>
        nm_r (nI_1 k) (ih (nI k, nI (th_dist (th_dec h k)), th_hpv (th_dec h k)) (Or.inr ⟨a, th_k4 hk⟩))
      rcases I with ⟨a, b⟩ | ⟨a, b⟩
      · exact br_t b (new (th_bs_n (by omega) a))
      · refine br_f b (br_c (fun u => new (th_bs_t (by omega) a (Or.inl u))) (fun u => br_c (fun v => br_c (fun w => ?_) (fun w => ?_)) (fun v => ?_)))
        · exact nm_r (nI_1 k) (ih (x1, x2, x3) (Or.inr ⟨th_bs_f (by omega) a (fun y => y.elim u fun y => y.2 w), b⟩))
        · exact new (th_bs_t (by omega) a (Or.inr ⟨v, w⟩))
        · exact nm_r (nI_1 k) (ih (x1, x2, x3) (Or.inr ⟨th_bs_f (by omega) a (fun y => y.elim u fun y => v y.1), b⟩))
