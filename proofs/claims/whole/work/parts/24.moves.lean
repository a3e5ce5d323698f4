/-! add, drop, turn, clear, have on both sides -/
def th_bad (x : Int32) : Prop := x < 0 ∨ 9 ≤ x
theorem th_kind (x : Int32) : th_bad x ∨ ∃ j : Nat, j < 9 ∧ x = nI j := by
  rcases pk_ix x (n := 9) (by omega) with h | h | h
  · exact Or.inl (Or.inl h)
  · exact Or.inl (Or.inr h)
  · exact Or.inr h
theorem th_9 {x : Int32} (h : 9 ≤ x) : ¬ x < 0 ∧ ¬ x ≤ 8 := by
  rw [Int32.le_iff_toInt_le, show (9 : Int32).toInt = 9 from by decide] at h
  rw [Int32.lt_iff_toInt_lt, Int32.le_iff_toInt_le, show (0 : Int32).toInt = 0 from by decide, show (8 : Int32).toInt = 8 from by decide]
  omega
theorem th_x_kind_b {post : Int32 → Prop} {u : SX} {x : Int32} (b : th_bad x) (H : post 0) : wpX_isKind post u x := by
  unfold wpX_isKind
  rcases b with b | b
  · exact br_t b H
  · exact br_f (th_9 b).1 (br_t b H)
theorem th_x_kind_g {post : Int32 → Prop} {u : SX} {j : Nat} (hj : j < 9) (H : post 1) : wpX_isKind post u (nI j) := by
  unfold wpX_isKind
  exact br_f (nI_pos (by omega)) (br_f (nI_ge (b := 9) hj (by omega)) H)
theorem th_y_bad_b {post : Int32 → Prop} {u : SY} {x : Int32} (b : th_bad x) (H : post 1) : wpY_bad post u x := by
  unfold wpY_bad
  rcases b with b | b
  · exact br_t b H
  · exact br_f (th_9 b).1 (br_f (th_9 b).2 H)
theorem th_y_bad_g {post : Int32 → Prop} {u : SY} {j : Nat} (hj : j < 9) (H : post 0) : wpY_bad post u (nI j) := by
  unfold wpY_bad
  exact br_f (nI_pos (by omega)) (br_t (nI_le (b := 8) (by omega) (by omega)) H)
section
variable {h : Nat → Nat} {gs cn lk lf lv : Int32} {t gt gz ct ch gr rs : Nat → Int32} {ls : Nat → Int64} {nc j : Nat}
theorem th_x_add_b {post : Int32 → SX → Prop} {hd x : Int32} (b : th_bad x) (H : post (-1) (hd, gs, cn, t, gt, gz, ct, ls, nc)) : wpX_add post (hd, gs, cn, t, gt, gz, ct, ls, nc) x := by
  unfold wpX_add
  dsimp only
  exact th_x_kind_b b (br_t rfl H)
theorem th_y_add_b {post : Int32 → SY → Prop} {hd x : Int32} (b : th_bad x) (H : post (-1) (hd, lk, lf, lv, t, ch, gr, rs)) : wpY_add post (hd, lk, lf, lv, t, ch, gr, rs) x := by
  unfold wpY_add
  dsimp only
  exact th_y_bad_b b (br_f (by decide) H)
theorem th_x_add_g {post : Int32 → SX → Prop} (hj : j < 9) (T : t j = nI (h j)) (h4 : h j ≤ 4) (s11 : th_s9 h ≤ 11)
    (H1 : h j = 4 → post (-4) (nI (th_s9 h), gs, cn, t, gt, gz, ct, ls, nc)) (H2 : h j ≠ 4 → th_s9 h = 11 → post (-2) (nI (th_s9 h), gs, cn, t, gt, gz, ct, ls, nc))
    (H3 : h j ≠ 4 → th_s9 h ≠ 11 → post (nI (th_s9 h + 1)) (nI (th_s9 h + 1), gs, cn, upd t j (nI (h j + 1)), gt, gz, ct, ls, nc)) : wpX_add post (nI (th_s9 h), gs, cn, t, gt, gz, ct, ls, nc) (nI j) := by
  have e : (nI j).toNatClampNeg = j := nI_clamp (by omega)
  have in9 : vp_in (nI j) 9 := vp_in_nI hj (by omega)
  unfold wpX_add
  dsimp only
  refine th_x_kind_g hj (br_f (by decide) ⟨in9, ?_⟩)
  rw [e, T]
  refine pk_eq (h j) 4 H1 (fun z => pk_eq (th_s9 h) 11 (fun y => H2 z y) (fun y => ⟨in9, in9, nm_r (e' := upd t j (nI (h j + 1))) (by rw [nI_1]) (nm_r (nI_1 _) (H3 z y))⟩))
theorem th_y_add_g {post : Int32 → SY → Prop} (hj : j < 9) (T : t j = nI (h j)) (h4 : h j ≤ 4) (s11 : th_s9 h ≤ 11)
    (H1 : h j = 4 → post (-4) (nI (th_s9 h), lk, lf, lv, t, ch, gr, rs)) (H2 : h j ≠ 4 → th_s9 h = 11 → post (-2) (nI (th_s9 h), lk, lf, lv, t, ch, gr, rs))
    (H3 : h j ≠ 4 → th_s9 h ≠ 11 → post (nI (th_s9 h + 1)) (nI (th_s9 h + 1), lk, lf, lv, upd t j (nI (h j + 1)), ch, gr, rs)) : wpY_add post (nI (th_s9 h), lk, lf, lv, t, ch, gr, rs) (nI j) := by
  have e : (nI j).toNatClampNeg = j := nI_clamp (by omega)
  have in9 : vp_in (nI j) 9 := vp_in_nI hj (by omega)
  unfold wpY_add
  dsimp only
  refine th_y_bad_g hj (br_t rfl ⟨in9, ?_⟩)
  rw [e, T]
  refine pk_eq (h j) 4 H1 (fun z => pk_eq (th_s9 h) 11 (fun y => H2 z y) (fun y => ⟨in9, in9, nm_r (e' := upd t j (nI (h j + 1))) (by rw [nI_1]) (nm_r (nI_1 _) (H3 z y))⟩))
theorem th_x_drop_b {post : Int32 → SX → Prop} {hd x : Int32} (b : th_bad x) (H : post (-1) (hd, gs, cn, t, gt, gz, ct, ls, nc)) : wpX_drop post (hd, gs, cn, t, gt, gz, ct, ls, nc) x := by
  unfold wpX_drop
  dsimp only
  exact th_x_kind_b b (br_t rfl H)
theorem th_y_drop_b {post : Int32 → SY → Prop} {hd x : Int32} (b : th_bad x) (H : post (-1) (hd, lk, lf, lv, t, ch, gr, rs)) : wpY_drop post (hd, lk, lf, lv, t, ch, gr, rs) x := by
  unfold wpY_drop
  dsimp only
  exact th_y_bad_b b (br_f (by decide) H)
theorem th_x_drop_g {post : Int32 → SX → Prop} (hj : j < 9) (T : t j = nI (h j)) (h4 : h j ≤ 4) (s11 : th_s9 h ≤ 11) (hs : h j ≤ th_s9 h)
    (H1 : h j = 0 → post (-4) (nI (th_s9 h), gs, cn, t, gt, gz, ct, ls, nc))
    (H3 : h j ≠ 0 → post (nI (th_s9 h - 1)) (nI (th_s9 h - 1), gs, cn, upd t j (nI (h j - 1)), gt, gz, ct, ls, nc)) : wpX_drop post (nI (th_s9 h), gs, cn, t, gt, gz, ct, ls, nc) (nI j) := by
  have e : (nI j).toNatClampNeg = j := nI_clamp (by omega)
  have in9 : vp_in (nI j) 9 := vp_in_nI hj (by omega)
  unfold wpX_drop
  dsimp only
  refine th_x_kind_g hj (br_f (by decide) ⟨in9, ?_⟩)
  rw [e, T]
  refine pk_eq (h j) 0 H1 (fun z => ⟨in9, in9, nm_r (e' := upd t j (nI (h j - 1))) (by rw [th_s1 (by omega)]) (nm_r (th_s1 (by omega)) (H3 z))⟩)
theorem th_y_drop_g {post : Int32 → SY → Prop} (hj : j < 9) (T : t j = nI (h j)) (h4 : h j ≤ 4) (s11 : th_s9 h ≤ 11) (hs : h j ≤ th_s9 h)
    (H1 : h j = 0 → post (-4) (nI (th_s9 h), lk, lf, lv, t, ch, gr, rs))
    (H3 : h j ≠ 0 → post (nI (th_s9 h - 1)) (nI (th_s9 h - 1), lk, lf, lv, upd t j (nI (h j - 1)), ch, gr, rs)) : wpY_drop post (nI (th_s9 h), lk, lf, lv, t, ch, gr, rs) (nI j) := by
  have e : (nI j).toNatClampNeg = j := nI_clamp (by omega)
  have in9 : vp_in (nI j) 9 := vp_in_nI hj (by omega)
  unfold wpY_drop
  dsimp only
  refine th_y_bad_g hj (br_t rfl ⟨in9, ?_⟩)
  rw [e, T]
  refine pk_eq (h j) 0 H1 (fun z => ⟨in9, in9, nm_r (e' := upd t j (nI (h j - 1))) (by rw [th_s1 (by omega)]) (nm_r (th_s1 (by omega)) (H3 z))⟩)
theorem th_x_have_b {post : Int32 → Prop} {hd x : Int32} (b : th_bad x) (H : post (-1)) : wpX_have post (hd, gs, cn, t, gt, gz, ct, ls, nc) x := by
  unfold wpX_have
  dsimp only
  exact th_x_kind_b b (br_t rfl H)
theorem th_y_have_b {post : Int32 → Prop} {hd x : Int32} (b : th_bad x) (H : post (-1)) : wpY_have post (hd, lk, lf, lv, t, ch, gr, rs) x := by
  unfold wpY_have
  dsimp only
  exact th_y_bad_b b (br_f (by decide) H)
theorem th_x_have_g {post : Int32 → Prop} {hd : Int32} (hj : j < 9) (H : post (t j)) : wpX_have post (hd, gs, cn, t, gt, gz, ct, ls, nc) (nI j) := by
  unfold wpX_have
  dsimp only
  refine th_x_kind_g hj (br_f (by decide) ⟨vp_in_nI hj (by omega), ?_⟩)
  rw [nI_clamp (by omega)]
  exact H
theorem th_y_have_g {post : Int32 → Prop} {hd : Int32} (hj : j < 9) (H : post (t j)) : wpY_have post (hd, lk, lf, lv, t, ch, gr, rs) (nI j) := by
  unfold wpY_have
  dsimp only
  refine th_y_bad_g hj (br_t rfl ⟨vp_in_nI hj (by omega), ?_⟩)
  rw [nI_clamp (by omega)]
  exact H
/-- turn: the swaps -/
def th_sw (t : Nat → Int32) (i : Nat) : Nat → Int32 := upd (upd t i (t (6 - i))) (6 - i) (t i)
def th_tn (t : Nat → Int32) : Nat → Nat → Int32
  | 0 => t
  | n + 1 => th_sw (th_tn t n) n
theorem th_6 {i : Nat} (hi : i < 3) : (6 : Int32) - nI i = nI (6 - i) := pk_sub (a := 6) (by omega)
theorem th_x_turn {post : Int32 → SX → Prop} {hd : Int32} (H : post hd (hd, gs, cn, th_tn t 3, gt, gz, ct, ls, nc)) : wpX_turn post (hd, gs, cn, t, gt, gz, ct, ls, nc) := by
  refine loop_0 (fun n i s => wX_turn_2 post hd gs cn nc n (nI i) s gt gz ct ls) (fun i s => s = th_tn t i) 3 t rfl ?_ ?_
  · rintro n s rfl
    exact br_t (nI_le (a := 3) (b := 3) (by omega) (by omega)) H
  · rintro n i s hi rfl ih
    have e : (nI i).toNatClampNeg = i := nI_clamp (by omega)
    have e6 : (nI (6 - i)).toNatClampNeg = 6 - i := nI_clamp (by omega)
    have in9 : vp_in (nI i) 9 := vp_in_nI (by omega) (by omega)
    have in6 : vp_in (nI (6 - i)) 9 := vp_in_nI (by omega) (by omega)
    refine br_f (nI_ge (b := 3) hi (by omega)) (nm_r (th_6 hi) ⟨in9, ?_⟩)
    rw [e, e6]
    exact nm_e ⟨in6, in9, nm_e ⟨in6, nm_e (nm_r (nI_1 i) (ih _ rfl))⟩⟩
theorem th_y_turn {post : Int32 → SY → Prop} {hd : Int32} (H : post hd (hd, lk, lf, lv, th_tn t 3, ch, gr, rs)) : wpY_turn post (hd, lk, lf, lv, t, ch, gr, rs) := by
  refine loop_0 (fun n i s => wY_turn_2 post hd lk lf lv n (nI i) s ch gr rs) (fun i s => s = th_tn t i) 3 t rfl ?_ ?_
  · rintro n s rfl
    exact br_t (nI_le (a := 3) (b := 3) (by omega) (by omega)) H
  · rintro n i s hi rfl ih
    have e : (nI i).toNatClampNeg = i := nI_clamp (by omega)
    have e6 : (nI (6 - i)).toNatClampNeg = 6 - i := nI_clamp (by omega)
    have in9 : vp_in (nI i) 9 := vp_in_nI (by omega) (by omega)
    have in6 : vp_in (nI (6 - i)) 9 := vp_in_nI (by omega) (by omega)
    refine br_f (nI_ge (b := 3) hi (by omega)) ⟨in9, ?_⟩
    rw [th_6 hi, e, e6]
    exact nm_e ⟨in6, in9, nm_e ⟨in6, nm_e (nm_r (nI_1 i) (ih _ rfl))⟩⟩
def th_hz (t : Nat → Int32) : Nat → Nat → Int32
  | 0 => t
  | n + 1 => upd (th_hz t n) n 0
theorem th_hz0 : ∀ n k, k < n → th_hz t n k = 0
  | n + 1, k, hk => by
    unfold th_hz
    by_cases z : k = n
    · subst z; exact pk_us
    · rw [pk_un z]; exact th_hz0 n k (by omega)
theorem th_x_clear {post : Int32 → SX → Prop} {hd : Int32} (H : post hd (0, gs, cn, th_hz t 9, gt, gz, ct, ls, nc)) : wpX_clear post (hd, gs, cn, t, gt, gz, ct, ls, nc) := by
  refine loop_0 (fun n i s => wX_clear_7 post hd hd gs cn nc n (nI i) s gt gz ct ls) (fun i s => s = th_hz t i) 9 t rfl ?_ ?_
  · rintro n s rfl
    exact br_t (nI_le (a := 9) (b := 9) (by omega) (by omega)) H
  · rintro n i s hi rfl ih
    exact br_f (nI_ge (b := 9) hi (by omega)) ⟨vp_in_nI hi (by omega), nm_r (e' := upd (th_hz t i) i 0) (by rw [nI_clamp (by omega)]) (nm_r (nI_1 i) (ih _ rfl))⟩
theorem th_y_clear {post : Int32 → SY → Prop} {hd : Int32} (H : post hd (0, lk, lf, lv, th_hz t 9, ch, gr, rs)) : wpY_clear post (hd, lk, lf, lv, t, ch, gr, rs) := by
  refine loop_0 (fun n i s => wY_clear_7 post hd hd lk lf lv n (nI i) s ch gr rs) (fun i s => s = th_hz t i) 9 t rfl ?_ ?_
  · rintro n s rfl
    exact br_t (nI_le (a := 9) (b := 9) (by omega) (by omega)) H
  · rintro n i s hi rfl ih
    exact br_f (nI_ge (b := 9) hi (by omega)) ⟨vp_in_nI hi (by omega), nm_r (e' := upd (th_hz t i) i 0) (by rw [nI_clamp (by omega)]) (nm_r (nI_1 i) (ih _ rfl))⟩
/-- the turned hand -/
def th_th (h : Nat → Nat) : Nat → Nat := fun k => if k < 7 then h (6 - k) else h k
theorem th_tn_th (T : ∀ k, k < 9 → t k = nI (h k)) : ∀ k, k < 9 → th_tn t 3 k = nI (th_th h k) := by
  have t' := th_all9 T
  refine th_c9 ?_ ?_ ?_ ?_ ?_ ?_ ?_ ?_ ?_ <;> simp [th_tn, th_sw, upd, th_th, t']
theorem th_th_s9 : th_s9 (th_th h) = th_s9 h := by
  simp [th_s9, th_th]
  omega
end
