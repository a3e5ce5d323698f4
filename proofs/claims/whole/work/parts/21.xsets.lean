/-! the class: groups, ways, completions -/
theorem th_vec9 (q k : Nat) : th_vec q k ≤ 9 := by
  have g : ∀ g, th_G g k ≤ 3 := fun g => by unfold th_G; split <;> split <;> (try split) <;> omega
  have := g (th_a q)
  have := g (th_b q)
  have := g (th_c q)
  unfold th_vec
  omega
theorem th_x_handHolds {post : Int32 → Prop} {h : Nat → Nat} {hd gs cn : Int32} {t gt gz ct : Nat → Int32} {ls : Nat → Int64} {nc i : Nat} (X : th_XH h t) (G : th_RG gt gz) (hi : i < 680)
    (H1 : (∀ k, k < 9 → th_vec (th_qi i) k ≤ h k) → post 1) (H0 : ¬ (∀ k, k < 9 → th_vec (th_qi i) k ≤ h k) → post 0) : wpX_handHolds post (hd, gs, cn, t, gt, gz, ct, ls, nc) (nI i) := by
  have cc := (G i hi).2
  refine nm_r (th_m9 i) ?_
  refine loop_0 (fun n k (_ : Unit) => wX_handHolds_7 post (nI (i * 9)) hd gs cn t gt gz ct ls nc n (nI k)) (fun k _ => ∀ j, j < k → th_vec (th_qi i) j ≤ h j) 9 () (fun j hj => absurd hj (by omega)) ?_ ?_
  · intro n _ e
    exact br_t (nI_le (a := 9) (b := 9) (by omega) (by omega)) (H1 e)
  · intro n k _ hk e ih
    have ek : (nI k).toNatClampNeg = k := nI_clamp (by omega)
    have ei : nI (i * 9) + nI k = nI (i * 9 + k) := nI_add _ _
    have ec : (nI (i * 9 + k)).toNatClampNeg = i * 9 + k := nI_clamp (by omega)
    have h4 := X.2 k hk
    have v9 := th_vec9 (th_qi i) k
    refine br_f (nI_ge (b := 9) hk (by omega)) ?_
    rw [ei]
    refine ⟨vp_in_nI (by omega) (by omega), vp_in_nI hk (by omega), ?_⟩
    rw [ec, ek, cc k hk, X.1 k hk]
    refine pk_le (th_vec (th_qi i) k) (h k) (fun z => nm_r (nI_1 k) (ih () fun j hj => ?_)) (fun z => H0 fun y => ?_)
    · by_cases v : j = k
      · rw [v]; exact z
      · exact e j (by omega)
    · have := y k hk; omega
theorem th_F0 {h : Nat → Nat} {q : Nat} : th_F h (fun _ => 0) q ↔ th_srt q = true ∧ ∀ k, k < 9 → th_vec q k ≤ h k := by
  unfold th_F
  simp only [Nat.zero_add]
theorem th_x_groups {post : Int32 → Prop} {h : Nat → Nat} {hd gs cn : Int32} {t gt gz ct : Nat → Int32} {ls : Nat → Int64} {nc : Nat} (X : th_XH h t) (G : th_RG gt gz)
    (H : ∀ r, th_AG h (fun _ => 0) r 3375 → post (nI r)) : wpX_groups post (hd, gs, cn, t, gt, gz, ct, ls, nc) := by
  refine loop_0 (fun n i s => wX_groups_4 post hd gs cn t gt gz ct ls nc n s (nI i)) (fun i s => ∃ r, s = nI r ∧ r ≤ 3 ∧ (r = 0 ∨ ∃ q, q < 3375 ∧ th_F h (fun _ => 0) q ∧ r = th_sz q) ∧ ∀ j, j < i → th_F h (fun _ => 0) (th_qi j) → th_sz (th_qi j) ≤ r) 680 0 ⟨0, rfl, by omega, Or.inl rfl, fun j hj => absurd hj (by omega)⟩ ?_ ?_
  · rintro n s ⟨r, rfl, r3, ex, al⟩
    refine br_t (nI_le (a := 680) (b := 680) (by omega) (by omega)) (H r ⟨r3, ex, fun q hq f => ?_⟩)
    have := al (th_nb q) (th_nb_lt hq f.1)
    rw [th_qi_nb hq f.1] at this
    exact this f
  · rintro n i s hi ⟨r, rfl, r3, ex, al⟩ ih
    have ei : (nI i).toNatClampNeg = i := nI_clamp (by omega)
    have in6 : vp_in (nI i) 680 := vp_in_nI hi (by omega)
    have z3 := th_sz3 (th_qi i)
    have nx : (th_F h (fun _ => 0) (th_qi i) → th_sz (th_qi i) ≤ r) → ∀ j, j < i + 1 → th_F h (fun _ => 0) (th_qi j) → th_sz (th_qi j) ≤ r := by
      intro a j hj f
      by_cases v : j = i
      · subst v; exact a f
      · exact al j (by omega) f
    refine br_f (nI_ge (b := 680) hi (by omega)) ⟨in6, ?_⟩
    rw [ei, (G i hi).1]
    refine pk_le (th_sz (th_qi i)) r (fun z => nm_r (nI_1 i) (ih _ ⟨r, rfl, r3, ex, nx fun _ => z⟩)) (fun z => ?_)
    refine th_x_handHolds X G hi (fun y => ?_) (fun y => ?_)
    · refine br_f (by decide) ⟨in6, nm_e (nm_r (nI_1 i) (ih _ ⟨th_sz (th_qi i), rfl, z3, Or.inr ⟨th_qi i, (th_qi_s hi).1, th_F0.mpr ⟨(th_qi_s hi).2.1, y⟩, rfl⟩, fun j hj f => ?_⟩))⟩
      by_cases v : j = i
      · subst v; exact Nat.le_refl _
      · have := al j (by omega) f; omega
    · exact br_t rfl (nm_r (nI_1 i) (ih _ ⟨r, rfl, r3, ex, nx fun f => absurd (th_F0.mp f).2 y⟩))
theorem th_AG_u {h : Nat → Nat} {a b : Nat} (A : th_AG h (fun _ => 0) a 3375) (B : th_AG h (fun _ => 0) b 3375) : a = b := by
  have one : ∀ {a b : Nat}, th_AG h (fun _ => 0) a 3375 → th_AG h (fun _ => 0) b 3375 → a ≤ b := by
    intro a b A B
    rcases A.2.1 with z | ⟨q, hq, f, e⟩
    · omega
    · rw [e]; exact B.2.2 q hq f
  exact Nat.le_antisymm (one A B) (one B A)
theorem th_sne {a b c : Nat} (ha : a < 2 ^ 30) (hb : b < 2 ^ 30) (hc : c < 2 ^ 30) (h : nI a - nI b = nI c) : a = b + c := by
  have e := congrArg Int32.toInt h
  rw [pk_sub_toInt ha hb, nI_toInt (by omega)] at e
  omega
theorem th_x_leaves {post : Int32 → Prop} {h : Nat → Nat} {hd gs cn : Int32} {t gt gz ct : Nat → Int32} {ls : Nat → Int64} {nc i : Nat} (X : th_XH h t) (G : th_RG gt gz) (hi : i < 680)
    (H1 : th_way h 9 (th_qi i) → post 1) (H0 : ¬ th_way h 9 (th_qi i) → post 0) : wpX_leavesOnePair post (hd, gs, cn, t, gt, gz, ct, ls, nc) (nI i) := by
  have cc := (G i hi).2
  have sr := (th_qi_s hi).2.1
  obtain ⟨v, ev⟩ : ∃ v, v = th_vec (th_qi i) := ⟨_, rfl⟩
  have W : th_way h 9 (th_qi i) ↔ ∃ p, p < 9 ∧ ∀ k, k < 9 → h k = th_pr p k + v k := by
    rw [ev]; exact ⟨fun w => w.2, fun w => ⟨sr, w⟩⟩
  have v9 : ∀ k, v k ≤ 9 := fun k => by rw [ev]; exact th_vec9 _ k
  rw [← ev] at cc
  refine nm_r (th_m9 i) ?_
  refine loop_0 (fun n k s => wX_leavesOnePair_10 post (nI (i * 9)) hd gs cn t gt gz ct ls nc n s (nI k))
    (fun k s => (s = nI 0 ∧ ∀ j, j < k → h j = v j) ∨ (s = nI 1 ∧ ∃ p, p < k ∧ ∀ j, j < k → h j = th_pr p j + v j) ∨ (∃ c p p', s = nI c ∧ 2 ≤ c ∧ c ≤ k ∧ p < p' ∧ p' < k ∧ h p = v p + 2 ∧ h p' = v p' + 2)) 9 0 (Or.inl ⟨rfl, fun j hj => absurd hj (by omega)⟩) ?_ ?_
  · intro n s I
    refine br_t (nI_le (a := 9) (b := 9) (by omega) (by omega)) ?_
    rcases I with ⟨e, a⟩ | ⟨e, p, hp, a⟩ | ⟨c, p, p', e, c2, c9, h1, h2, h3, h4⟩
    · subst e
      refine br_f (by decide) (H0 fun w => ?_)
      obtain ⟨p, hp, b⟩ := W.mp w
      have x1 := a p hp
      have x2 := b p hp
      unfold th_pr at x2
      rw [if_pos rfl] at x2
      omega
    · subst e
      exact br_t rfl (H1 (W.mpr ⟨p, hp, a⟩))
    · subst e
      refine br_f (fun z => ?_) (H0 fun w => ?_)
      · have := (nI_eq (a := c) (b := 1) (by omega) (by omega)).mp z
        omega
      · obtain ⟨p0, hp0, b⟩ := W.mp w
        have x1 := b p (by omega)
        have x2 := b p' (by omega)
        unfold th_pr at x1 x2
        split at x1 <;> split at x2 <;> omega
  · intro n k s hk I ih
    have ek : (nI k).toNatClampNeg = k := nI_clamp (by omega)
    have ei : nI (i * 9) + nI k = nI (i * 9 + k) := nI_add _ _
    have ec : (nI (i * 9 + k)).toNatClampNeg = i * 9 + k := nI_clamp (by omega)
    have h4 := X.2 k hk
    have vk := v9 k
    refine br_f (nI_ge (b := 9) hk (by omega)) ?_
    rw [ei]
    refine ⟨vp_in_nI hk (by omega), vp_in_nI (by omega) (by omega), nm_r (e' := nI (h k) - nI (v k)) (by rw [ec, ek, cc k hk, X.1 k hk]) ?_⟩
    have pn : ∀ {p : Nat}, p < k → th_pr p k = 0 := fun hp => by unfold th_pr; rw [if_neg (by omega)]
    refine br_c (fun z => ?_) (fun z => br_c (fun y => ?_) (fun y => ?_))
    · have e2 := th_sne (c := 2) (by omega) (by omega) (by omega) z
      rcases I with ⟨e, a⟩ | ⟨e, p, hp, a⟩ | ⟨c, p, p', e, c2, c9, h1, h2, h3, h5⟩
      · subst e
        refine nm_r (nI_1 0) (nm_r (nI_1 k) (ih _ (Or.inr (Or.inl ⟨rfl, k, by omega, fun j hj => ?_⟩))))
        unfold th_pr
        by_cases u : j = k
        · rw [if_pos u, u]; omega
        · rw [if_neg u]; have := a j (by omega); omega
      · subst e
        refine nm_r (nI_1 1) (nm_r (nI_1 k) (ih _ (Or.inr (Or.inr ⟨2, p, k, rfl, by omega, by omega, hp, by omega, ?_, by omega⟩))))
        have := a p hp
        unfold th_pr at this
        rw [if_pos rfl] at this
        omega
      · subst e
        exact nm_r (nI_1 c) (nm_r (nI_1 k) (ih _ (Or.inr (Or.inr ⟨c + 1, p, p', rfl, by omega, by omega, h1, by omega, h3, h5⟩))))
    · have e0 := th_sne (c := 0) (by omega) (by omega) (by omega) y
      refine nm_r (nI_1 k) (ih _ ?_)
      rcases I with ⟨e, a⟩ | ⟨e, p, hp, a⟩ | ⟨c, p, p', e, c2, c9, h1, h2, h3, h5⟩
      · refine Or.inl ⟨e, fun j hj => ?_⟩
        by_cases u : j = k
        · rw [u]; omega
        · exact a j (by omega)
      · refine Or.inr (Or.inl ⟨e, p, by omega, fun j hj => ?_⟩)
        by_cases u : j = k
        · rw [u, pn hp]; omega
        · exact a j (by omega)
      · exact Or.inr (Or.inr ⟨c, p, p', e, c2, by omega, h1, by omega, h3, h5⟩)
    · refine H0 fun w => ?_
      obtain ⟨p0, hp0, b⟩ := W.mp w
      have x1 := b k hk
      unfold th_pr at x1
      split at x1
      · refine z ?_
        rw [x1, pk_sub (by omega), show 2 + v k - v k = 2 by omega]; rfl
      · refine y ?_
        rw [x1, pk_sub (by omega), show 0 + v k - v k = 0 by omega]; rfl
theorem th_x_ways {post : Int32 → Prop} {h : Nat → Nat} {hd gs cn : Int32} {t gt gz ct : Nat → Int32} {ls : Nat → Int64} {nc : Nat} (X : th_XH h t) (G : th_RG gt gz)
    (H : post (nI (th_wn h 9))) : wpX_ways post (hd, gs, cn, t, gt, gz, ct, ls, nc) := by
  refine loop_0 (fun n i s => wX_ways_4 post hd gs cn t gt gz ct ls nc n s (nI i)) (fun i s => s = nI (th_cnt (fun j => th_B (th_way h 9 (th_qi j))) i)) 680 0 rfl ?_ ?_
  · rintro n s rfl
    have e : th_cnt (fun j => th_B (th_way h 9 (th_qi j))) 680 = th_wn h 9 := by
      have c := th_cnt_nb (fun j => th_B (th_way h 9 (th_qi j))) 3375
      rw [th_nb_all] at c
      rw [c]
      refine th_cnt_ext 3375 fun q hq => ?_
      rw [Bool.eq_iff_iff, Bool.and_eq_true, th_B_iff, th_B_iff]
      constructor
      · rintro ⟨a, b⟩
        rw [th_qi_nb hq a] at b
        exact b
      · intro b
        rw [th_qi_nb hq b.1]
        exact ⟨b.1, b⟩
    rw [e]
    exact br_t (nI_le (a := 680) (b := 680) (by omega) (by omega)) H
  · rintro n i s hi rfl ih
    have st : th_cnt (fun j => th_B (th_way h 9 (th_qi j))) (i + 1) = th_cnt (fun j => th_B (th_way h 9 (th_qi j))) i + (if th_B (th_way h 9 (th_qi i)) then 1 else 0) := rfl
    refine br_f (nI_ge (b := 680) hi (by omega)) (th_x_leaves X G hi (fun w => ?_) (fun w => ?_))
    · exact br_f (by decide) (nm_r (nI_1 _) (nm_r (nI_1 i) (ih _ (by rw [st, th_B_t w]; rfl))))
    · exact br_t rfl (nm_r (nI_1 i) (ih _ (by rw [st, th_B_f w]; rfl)))
theorem th_x_completions {post : Int32 → Prop} {h : Nat → Nat} {hd gs cn : Int32} {t gt gz ct : Nat → Int32} {ls : Nat → Int64} {nc m : Nat} {l : Nat → Nat} (X : th_XH h t) (C : th_RC cn ct nc m l) (s11 : th_s9 h ≤ 11) (ehd : hd = nI (th_s9 h))
    (H : post (nI (th_ps (fun p => th_cnt (th_P h p) 3375) 9))) : wpX_completions post (hd, gs, cn, t, gt, gz, ct, ls, nc) := by
  have C' := C
  obtain ⟨_, m5, ecn, inj, mem, _⟩ := C'
  refine loop_0 (fun n i s => wX_completions_4 post hd gs cn t gt gz ct ls nc n s (nI i)) (fun i s => s = nI (th_cnt (fun j => (fun x => th_B (∀ k, k < 9 → h k ≤ th_dg x k)) (l j)) i)) m 0 rfl ?_ ?_
  · rintro n s rfl
    have c : th_cnt (fun j => (fun x => th_B (∀ k, k < 9 → h k ≤ th_dg x k)) (l j)) m = th_ps (fun p => th_cnt (th_P h p) 3375) 9 := th_compl inj mem (fun x => th_B (∀ k, k < 9 → h k ≤ th_dg x k))
    rw [c]
    exact br_t (by rw [ecn]; exact nI_le (Nat.le_refl m) (by omega)) H
  · rintro n i s hi rfl ih
    have b' : th_miss h (l i) ≤ 180 := th_over_b (c := th_dg (l i)) (h := h) fun k _ => by have := th_dg_le (l i) k; omega
    have st : th_cnt (fun j => (fun x => th_B (∀ k, k < 9 → h k ≤ th_dg x k)) (l j)) (i + 1) = th_cnt (fun j => (fun x => th_B (∀ k, k < 9 → h k ≤ th_dg x k)) (l j)) i + (if th_B (∀ k, k < 9 → h k ≤ th_dg (l i) k) then 1 else 0) := rfl
    have bal := th_over_bal (th_dg (l i)) h
    have s9 := th_CH_s9 ((mem (l i)).mpr ⟨i, hi, rfl⟩)
    have z0 := th_over_0 (h := h) (c := th_dg (l i))
    have ms : th_miss h (l i) = th_over (th_dg (l i)) h := rfl
    have e11 : (11 : Int32) - hd = nI (11 - th_s9 h) := by rw [ehd]; exact pk_sub (a := 11) s11
    refine br_f (by rw [ecn]; exact nI_ge hi (by omega)) (th_x_missingTo X C hi (pk_eq (th_miss h (l i)) (11 - th_s9 h) (fun z => ?_) (fun z => ?_) rfl e11 (by omega) (by omega)))
    · exact nm_r (nI_1 _) (nm_r (nI_1 i) (ih _ (by rw [st, th_B_t (z0.mp (by omega))]; rfl)))
    · exact nm_r (nI_1 i) (ih _ (by rw [st, th_B_f (fun y => z (by have := z0.mpr y; omega))]; rfl))
