/-! the relation and what is owed -/
/-- one hand h on both sides; the class's two lists as the constructor left them -/
def i_Rel (k : Nat) (u : SX) (v : SY) : Prop := ∃ (h : Nat → Nat) (hd gs cn : Int32) (t gt gz ct : Nat → Int32) (ls : Nat → Int64) (m : Nat) (l : Nat → Nat) (lk lf lv : Int32) (ch gr rs : Nat → Int32),
  u = (hd, gs, cn, t, gt, gz, ct, ls, 45360) ∧ v = (hd, lk, lf, lv, t, ch, gr, rs) ∧ (∀ k, k < 9 → t k = nI (h k)) ∧ (∀ k, k < 9 → h k ≤ 4) ∧ hd = nI (th_s9 h) ∧ th_s9 h ≤ 11 ∧ th_RG gt gz ∧ th_RC cn ct 45360 m l
theorem i_up {k : Nat} {u : SX} {v : SY} (h : i_Rel k u v) : i_Rel (k + 2) u v := h
theorem i_vc0 : wpX_init (fun u => wpY_init (fun v => i_Rel 0 u v)) :=
  th_x_init fun gs cn gt gz ct ls m l G C => ⟨fun _ => 0, _, gs, cn, _, gt, gz, ct, ls, m, l, _, _, _, _, _, _, rfl, rfl, fun _ _ => rfl, fun _ _ => Nat.zero_le _, rfl, by decide, G, C⟩
theorem i_vc_add {k : Nat} {u : SX} {v : SY} (I : i_Rel k u v) (hk : k + 2 ≤ 1024) (v1 : Int32) : wpX_add (fun r u' => wpY_add (fun r' v' => r' = r ∧ i_Rel (k + 2) u' v') v v1) u v1 := by
  have I0 := I
  obtain ⟨h, hd, gs, cn, t, gt, gz, ct, ls, m, l, lk, lf, lv, ch, gr, rs, rfl, rfl, T, h4, rfl, s11, G, C⟩ := I
  rcases th_kind v1 with b | ⟨j, hj, rfl⟩
  · exact th_x_add_b b (th_y_add_b b ⟨rfl, I0⟩)
  · refine th_x_add_g hj (T j hj) (h4 j hj) s11 (fun z => ?_) (fun z y => ?_) (fun z y => ?_)
    · exact th_y_add_g hj (T j hj) (h4 j hj) s11 (fun _ => ⟨rfl, I0⟩) (fun z' _ => absurd z z') (fun z' _ => absurd z z')
    · exact th_y_add_g hj (T j hj) (h4 j hj) s11 (fun z' => absurd z' z) (fun _ _ => ⟨rfl, I0⟩) (fun _ y' => absurd y y')
    · refine th_y_add_g hj (T j hj) (h4 j hj) s11 (fun z' => absurd z' z) (fun _ y' => absurd y' y) (fun _ _ => ⟨rfl, ?_⟩)
      have Y := th_YH_inc hj (sz := nI (th_s9 h)) (hv := t) ⟨T, h4, rfl, by omega⟩ (by have := h4 j hj; omega) s11
      have e : th_s9 (th_inc h j) = th_s9 h + 1 := by
        have e := th_s9_put (fun _ y => y) h (h j + 1) j hj
        have e' : th_s9 (th_inc h j) = th_s9 (fun i => th_put h j (h j + 1) i) := th_s9_ext fun i _ => th_inc_put i
        have : th_s9 (fun j => h j) = th_s9 h := rfl
        omega
      exact ⟨th_inc h j, _, gs, cn, _, gt, gz, ct, ls, m, l, lk, lf, lv, ch, gr, rs, rfl, rfl, Y.1, Y.2.1, Y.2.2.1, by omega, G, C⟩
theorem i_vc_drop {k : Nat} {u : SX} {v : SY} (I : i_Rel k u v) (hk : k + 2 ≤ 1024) (v1 : Int32) : wpX_drop (fun r u' => wpY_drop (fun r' v' => r' = r ∧ i_Rel (k + 2) u' v') v v1) u v1 := by
  have I0 := I
  obtain ⟨h, hd, gs, cn, t, gt, gz, ct, ls, m, l, lk, lf, lv, ch, gr, rs, rfl, rfl, T, h4, rfl, s11, G, C⟩ := I
  rcases th_kind v1 with b | ⟨j, hj, rfl⟩
  · exact th_x_drop_b b (th_y_drop_b b ⟨rfl, I0⟩)
  · have hs := th_s9_mem h j hj
    refine th_x_drop_g hj (T j hj) (h4 j hj) s11 hs (fun z => ?_) (fun z => ?_)
    · exact th_y_drop_g hj (T j hj) (h4 j hj) s11 hs (fun _ => ⟨rfl, I0⟩) (fun z' => absurd z z')
    · refine th_y_drop_g hj (T j hj) (h4 j hj) s11 hs (fun z' => absurd z' z) (fun _ => ⟨rfl, ?_⟩)
      have Y := th_YH_dec hj (sz := nI (th_s9 h)) (hv := t) ⟨T, h4, rfl, by omega⟩ (by omega)
      have e := th_s9_dec (h := h) hj (by omega)
      exact ⟨th_dec h j, _, gs, cn, _, gt, gz, ct, ls, m, l, lk, lf, lv, ch, gr, rs, rfl, rfl, Y.1, Y.2.1, Y.2.2.1, by omega, G, C⟩
theorem i_vc_turn {k : Nat} {u : SX} {v : SY} (I : i_Rel k u v) (hk : k + 2 ≤ 1024) : wpX_turn (fun r u' => wpY_turn (fun r' v' => r' = r ∧ i_Rel (k + 2) u' v') v) u := by
  obtain ⟨h, hd, gs, cn, t, gt, gz, ct, ls, m, l, lk, lf, lv, ch, gr, rs, rfl, rfl, T, h4, rfl, s11, G, C⟩ := I
  refine th_x_turn (th_y_turn ⟨rfl, ?_⟩)
  refine ⟨th_th h, _, gs, cn, _, gt, gz, ct, ls, m, l, lk, lf, lv, ch, gr, rs, rfl, rfl, th_tn_th T, fun i hi => ?_, by rw [th_th_s9], by rw [th_th_s9]; exact s11, G, C⟩
  unfold th_th
  split
  · exact h4 _ (by omega)
  · exact h4 i hi
theorem i_vc_clear {k : Nat} {u : SX} {v : SY} (I : i_Rel k u v) (hk : k + 2 ≤ 1024) : wpX_clear (fun r u' => wpY_clear (fun r' v' => r' = r ∧ i_Rel (k + 2) u' v') v) u := by
  obtain ⟨h, hd, gs, cn, t, gt, gz, ct, ls, m, l, lk, lf, lv, ch, gr, rs, rfl, rfl, T, h4, rfl, s11, G, C⟩ := I
  refine th_x_clear (th_y_clear ⟨rfl, ?_⟩)
  exact ⟨fun _ => 0, _, gs, cn, _, gt, gz, ct, ls, m, l, lk, lf, lv, ch, gr, rs, rfl, rfl, fun i hi => th_hz0 9 i hi, fun _ _ => Nat.zero_le _, rfl, by decide, G, C⟩
theorem i_vc_size {k : Nat} {u : SX} {v : SY} (I : i_Rel k u v) (hk : k + 2 ≤ 1024) : wpX_size (fun r => wpY_size (fun r' => r' = r ∧ i_Rel (k + 2) u v) v) u := by
  have I0 := I
  obtain ⟨h, hd, gs, cn, t, gt, gz, ct, ls, m, l, lk, lf, lv, ch, gr, rs, rfl, rfl, T, h4, rfl, s11, G, C⟩ := I
  exact ⟨rfl, I0⟩
theorem i_vc_have {k : Nat} {u : SX} {v : SY} (I : i_Rel k u v) (hk : k + 2 ≤ 1024) (v1 : Int32) : wpX_have (fun r => wpY_have (fun r' => r' = r ∧ i_Rel (k + 2) u v) v v1) u v1 := by
  have I0 := I
  obtain ⟨h, hd, gs, cn, t, gt, gz, ct, ls, m, l, lk, lf, lv, ch, gr, rs, rfl, rfl, T, h4, rfl, s11, G, C⟩ := I
  rcases th_kind v1 with b | ⟨j, hj, rfl⟩
  · exact th_x_have_b b (th_y_have_b b ⟨rfl, I0⟩)
  · exact th_x_have_g hj (th_y_have_g hj ⟨rfl, I0⟩)
theorem i_vc_distance {k : Nat} {u : SX} {v : SY} (I : i_Rel k u v) (hk : k + 2 ≤ 1024) : wpX_distance (fun r => wpY_distance (fun r' v' => r' = r ∧ i_Rel (k + 2) u v') v) u := by
  obtain ⟨h, hd, gs, cn, t, gt, gz, ct, ls, m, l, lk, lf, lv, ch, gr, rs, rfl, rfl, T, h4, rfl, s11, G, C⟩ := I
  unfold wpX_distance
  refine th_x_least ⟨T, h4⟩ C (th_y_distance ⟨T, h4, rfl, by omega⟩ fun lk' lf' lv' ch' gr' => ⟨rfl, ?_⟩)
  exact ⟨h, _, gs, cn, t, gt, gz, ct, ls, m, l, lk', lf', lv', ch', gr', rs, rfl, rfl, T, h4, rfl, s11, G, C⟩
theorem i_vc_wanted {k : Nat} {u : SX} {v : SY} (I : i_Rel k u v) (hk : k + 2 ≤ 1024) : wpX_wanted (fun r => wpY_wanted (fun r' v' => r' = r ∧ i_Rel (k + 2) u v') v) u := by
  obtain ⟨h, hd, gs, cn, t, gt, gz, ct, ls, m, l, lk, lf, lv, ch, gr, rs, rfl, rfl, T, h4, rfl, s11, G, C⟩ := I
  unfold wpX_wanted wpY_wanted
  refine th_x_least ⟨T, h4⟩ C (th_x_kindsAt ⟨T, h4⟩ C ?_)
  refine th_y_distance ⟨T, h4, rfl, by omega⟩ fun lk1 lf1 lv1 ch1 gr1 => ?_
  refine th_y_wantedFrom ⟨T, h4, rfl, by omega⟩ s11 fun lk' lf' lv' ch' gr' => ⟨rfl, ?_⟩
  exact ⟨h, _, gs, cn, t, gt, gz, ct, ls, m, l, lk', lf', lv', ch', gr', rs, rfl, rfl, T, h4, rfl, s11, G, C⟩
theorem i_vc_hope {k : Nat} {u : SX} {v : SY} (I : i_Rel k u v) (hk : k + 2 ≤ 1024) : wpX_hope (fun r => wpY_hope (fun r' v' => r' = r ∧ i_Rel (k + 2) u v') v) u := by
  obtain ⟨h, hd, gs, cn, t, gt, gz, ct, ls, m, l, lk, lf, lv, ch, gr, rs, rfl, rfl, T, h4, rfl, s11, G, C⟩ := I
  unfold wpX_hope wpY_hope
  refine th_x_least ⟨T, h4⟩ C (th_x_hopeAt ⟨T, h4⟩ C ?_)
  refine th_y_distance ⟨T, h4, rfl, by omega⟩ fun lk1 lf1 lv1 ch1 gr1 => ?_
  refine th_y_hopeFrom ⟨T, h4, rfl, by omega⟩ s11 fun lk' lf' lv' ch' gr' => ⟨rfl, ?_⟩
  exact ⟨h, _, gs, cn, t, gt, gz, ct, ls, m, l, lk', lf', lv', ch', gr', rs, rfl, rfl, T, h4, rfl, s11, G, C⟩
theorem i_vc_best {k : Nat} {u : SX} {v : SY} (I : i_Rel k u v) (hk : k + 2 ≤ 1024) : wpX_best (fun r u' => wpY_best (fun r' v' => r' = r ∧ i_Rel (k + 2) u' v') v) u := by
  obtain ⟨h, hd, gs, cn, t, gt, gz, ct, ls, m, l, lk, lf, lv, ch, gr, rs, rfl, rfl, T, h4, rfl, s11, G, C⟩ := I
  refine th_x_best ⟨T, h4⟩ C (th_y_best ⟨T, h4, rfl, by omega⟩ fun lk' lf' lv' ch' gr' => ⟨rfl, ?_⟩)
  exact ⟨h, _, gs, cn, t, gt, gz, ct, ls, m, l, lk', lf', lv', ch', gr', rs, rfl, rfl, T, h4, rfl, s11, G, C⟩
theorem i_vc_groups {k : Nat} {u : SX} {v : SY} (I : i_Rel k u v) (hk : k + 2 ≤ 1024) : wpX_groups (fun r => wpY_groups (fun r' v' => r' = r ∧ i_Rel (k + 2) u v') v) u := by
  obtain ⟨h, hd, gs, cn, t, gt, gz, ct, ls, m, l, lk, lf, lv, ch, gr, rs, rfl, rfl, T, h4, rfl, s11, G, C⟩ := I
  refine th_x_groups ⟨T, h4⟩ G fun a A => th_y_groups ⟨T, h4, rfl, by omega⟩ fun b lk' lf' lv' ch' gr' B => ⟨by rw [th_AG_u A B], ?_⟩
  exact ⟨h, _, gs, cn, t, gt, gz, ct, ls, m, l, lk', lf', lv', ch', gr', rs, rfl, rfl, T, h4, rfl, s11, G, C⟩
theorem i_vc_ways {k : Nat} {u : SX} {v : SY} (I : i_Rel k u v) (hk : k + 2 ≤ 1024) : wpX_ways (fun r => wpY_ways (fun r' v' => r' = r ∧ i_Rel (k + 2) u v') v) u := by
  obtain ⟨h, hd, gs, cn, t, gt, gz, ct, ls, m, l, lk, lf, lv, ch, gr, rs, rfl, rfl, T, h4, rfl, s11, G, C⟩ := I
  refine th_x_ways ⟨T, h4⟩ G (th_y_ways ⟨T, h4, rfl, by omega⟩ s11 fun lk' lf' lv' ch' gr' => ⟨rfl, ?_⟩)
  exact ⟨h, _, gs, cn, t, gt, gz, ct, ls, m, l, lk', lf', lv', ch', gr', rs, rfl, rfl, T, h4, rfl, s11, G, C⟩
theorem i_vc_completions {k : Nat} {u : SX} {v : SY} (I : i_Rel k u v) (hk : k + 2 ≤ 1024) : wpX_completions (fun r => wpY_completions (fun r' v' => r' = r ∧ i_Rel (k + 2) u v') v) u := by
  obtain ⟨h, hd, gs, cn, t, gt, gz, ct, ls, m, l, lk, lf, lv, ch, gr, rs, rfl, rfl, T, h4, rfl, s11, G, C⟩ := I
  refine th_x_completions ⟨T, h4⟩ C s11 rfl (th_y_completions ⟨T, h4, rfl, by omega⟩ fun lk' lf' lv' ch' gr' rs' => ⟨rfl, ?_⟩)
  exact ⟨h, _, gs, cn, t, gt, gz, ct, ls, m, l, lk', lf', lv', ch', gr', rs', rfl, rfl, T, h4, rfl, s11, G, C⟩
