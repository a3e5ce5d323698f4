/-! the reference: begin, take, giveBack, tile, takeGroup, giveGroup, fits -/
def th_YC (h c : Nat → Nat) (lk lf : Int32) (hv ch : Nat → Int32) : Prop :=
  (∀ k, k < 9 → hv k = nI (h k) ∧ h k ≤ 20) ∧ (∀ k, k < 9 → ch k = nI (c k) ∧ c k ≤ 20) ∧ lk = nI (th_over c h) ∧ lf = nI (th_over h c)
theorem th_YC_ext {h c c' : Nat → Nat} {lk lf : Int32} {hv ch : Nat → Int32} (e : ∀ k, k < 9 → c k = c' k) (Y : th_YC h c lk lf hv ch) : th_YC h c' lk lf hv ch := by
  obtain ⟨a, b, d, f⟩ := Y
  refine ⟨a, fun k hk => ?_, ?_, ?_⟩
  · rw [← e k hk]; exact b k hk
  · rw [d]; congr 1; exact th_s9_ext fun k hk => by rw [e k hk]
  · rw [f]; congr 1; exact th_s9_ext fun k hk => by rw [e k hk]
def th_inc (c : Nat → Nat) (j : Nat) : Nat → Nat := fun k => c k + (if k = j then 1 else 0)
def th_dec (c : Nat → Nat) (j : Nat) : Nat → Nat := fun k => c k - (if k = j then 1 else 0)
theorem th_inc_put {c : Nat → Nat} {j : Nat} (k : Nat) : th_inc c j k = th_put c j (c j + 1) k := by
  unfold th_inc th_put
  split
  · rename_i e; rw [e]
  · rfl
theorem th_dec_put {c : Nat → Nat} {j : Nat} (k : Nat) : th_dec c j k = th_put c j (c j - 1) k := by
  unfold th_dec th_put
  split
  · rename_i e; rw [e]
  · rfl
theorem th_over_inc {c h : Nat → Nat} {j : Nat} (hj : j < 9) : th_over (th_inc c j) h + (c j - h j) = th_over c h + (c j + 1 - h j) ∧
    th_over h (th_inc c j) + (h j - c j) = th_over h c + (h j - (c j + 1)) := by
  have a := th_s9_put (fun k y => y - h k) c (c j + 1) j hj
  have b := th_s9_put (fun k y => h k - y) c (c j + 1) j hj
  have a' : th_over (th_inc c j) h = th_s9 (fun k => th_put c j (c j + 1) k - h k) := th_s9_ext fun k _ => by rw [th_inc_put]
  have b' : th_over h (th_inc c j) = th_s9 (fun k => h k - th_put c j (c j + 1) k) := th_s9_ext fun k _ => by rw [th_inc_put]
  rw [a', b']
  exact ⟨a, b⟩
theorem th_over_dec {c h : Nat → Nat} {j : Nat} (hj : j < 9) : th_over (th_dec c j) h + (c j - h j) = th_over c h + (c j - 1 - h j) ∧
    th_over h (th_dec c j) + (h j - c j) = th_over h c + (h j - (c j - 1)) := by
  have a := th_s9_put (fun k y => y - h k) c (c j - 1) j hj
  have b := th_s9_put (fun k y => h k - y) c (c j - 1) j hj
  have a' : th_over (th_dec c j) h = th_s9 (fun k => th_put c j (c j - 1) k - h k) := th_s9_ext fun k _ => by rw [th_dec_put]
  have b' : th_over h (th_dec c j) = th_s9 (fun k => h k - th_put c j (c j - 1) k) := th_s9_ext fun k _ => by rw [th_dec_put]
  rw [a', b']
  exact ⟨a, b⟩
theorem th_y_begin {post : SY → Prop} {sz lk lf lv : Int32} {hv ch gr rs : Nat → Int32} (H : ∀ ch' : Nat → Int32, (∀ k, k < 9 → ch' k = 0) → post (sz, 0, sz, lv, hv, ch', gr, rs)) :
    wpY_begin post (sz, lk, lf, lv, hv, ch, gr, rs) := by
  show ∃ n2, wY_begin_2 post sz lk lf lv n2 0 hv ch gr rs
  refine loop_0 (fun n i s => wY_begin_2 post sz lk lf lv n (nI i) hv s gr rs) (fun i s => ∀ k, k < i → s k = 0) 9 ch (fun k hk => absurd hk (by omega)) ?_ ?_
  · intro n s hI
    exact br_t (nI_le (a := 9) (b := 9) (by omega) (by omega)) (H s hI)
  · intro n i s hi hI ih
    refine br_f (nI_ge (b := 9) hi (by omega)) ⟨vp_in_nI hi (by omega), nm_r (e' := upd s i 0) (by rw [nI_clamp (by omega)]) (nm_r (nI_1 i) (ih _ ?_))⟩
    intro k hk
    by_cases e : k = i
    · subst e; exact pk_us
    · rw [pk_un e]; exact hI k (by omega)
theorem th_y_take {post : SY → Prop} {h c : Nat → Nat} {sz lk lf lv : Int32} {hv ch gr rs : Nat → Int32} {j : Nat} (hj : j < 9) (hc : c j < 20) (Y : th_YC h c lk lf hv ch)
    (H : ∀ (lk' lf' : Int32) (ch' : Nat → Int32), th_YC h (th_inc c j) lk' lf' hv ch' → post (sz, lk', lf', lv, hv, ch', gr, rs)) :
    wpY_take post (sz, lk, lf, lv, hv, ch, gr, rs) (nI j) := by
  obtain ⟨Yh, Yc, Yl, Yf⟩ := Y
  have e : (nI j).toNatClampNeg = j := nI_clamp (by omega)
  have in9 : vp_in (nI j) 9 := vp_in_nI hj (by omega)
  obtain ⟨o1, o2⟩ := th_over_inc (c := c) (h := h) hj
  have c' : ∀ k, k < 9 → upd ch j (nI (c j + 1)) k = nI (th_inc c j k) ∧ th_inc c j k ≤ 20 := by
    intro k hk
    by_cases z : k = j
    · subst z; rw [pk_us]; unfold th_inc; rw [if_pos rfl]; exact ⟨rfl, by omega⟩
    · rw [pk_un z]; unfold th_inc; rw [if_neg z]; exact Yc k hk
  have hj20 := (Yh j hj).2
  have ue : upd ch (nI j).toNatClampNeg (ch (nI j).toNatClampNeg + 1) = upd ch j (nI (c j + 1)) := by rw [e, (Yc j hj).1, nI_1]
  refine ⟨in9, in9, pk_le (h j) (c j) (fun hle => ?_) (fun hlt => ?_) (by rw [e]; exact (Yh j hj).1) (by rw [e]; exact (Yc j hj).1) (by omega) (by omega)⟩
  · refine nm_r (e' := nI (th_over c h + 1)) (by rw [Yl, nI_1]) ?_
    refine ⟨in9, in9, nm_r ue (H _ _ _ ⟨Yh, c', ?_, ?_⟩)⟩
    · congr 1; omega
    · rw [Yf]; congr 1; omega
  · refine nm_r (e' := nI (th_over h c - 1)) (by rw [Yf, th_s1 (by omega)]) ?_
    refine ⟨in9, in9, nm_r ue (H _ _ _ ⟨Yh, c', ?_, ?_⟩)⟩
    · rw [Yl]; congr 1; omega
    · congr 1; omega
theorem th_y_giveBack {post : SY → Prop} {h c : Nat → Nat} {sz lk lf lv : Int32} {hv ch gr rs : Nat → Int32} {j : Nat} (hj : j < 9) (hc : 0 < c j) (Y : th_YC h c lk lf hv ch)
    (H : ∀ (lk' lf' : Int32) (ch' : Nat → Int32), th_YC h (th_dec c j) lk' lf' hv ch' → post (sz, lk', lf', lv, hv, ch', gr, rs)) :
    wpY_giveBack post (sz, lk, lf, lv, hv, ch, gr, rs) (nI j) := by
  obtain ⟨Yh, Yc, Yl, Yf⟩ := Y
  have e : (nI j).toNatClampNeg = j := nI_clamp (by omega)
  have in9 : vp_in (nI j) 9 := vp_in_nI hj (by omega)
  obtain ⟨o1, o2⟩ := th_over_dec (c := c) (h := h) hj
  have c' : ∀ k, k < 9 → upd ch j (nI (c j - 1)) k = nI (th_dec c j k) ∧ th_dec c j k ≤ 20 := by
    intro k hk
    by_cases z : k = j
    · subst z; rw [pk_us]; unfold th_dec; rw [if_pos rfl]; exact ⟨rfl, by have := (Yc k hk).2; omega⟩
    · rw [pk_un z]; unfold th_dec; rw [if_neg z]; exact Yc k hk
  have hj20 := (Yh j hj).2
  have cj20 := (Yc j hj).2
  have ue : upd ch (nI j).toNatClampNeg (ch (nI j).toNatClampNeg - 1) = upd ch j (nI (c j - 1)) := by rw [e, (Yc j hj).1, th_s1 hc]
  refine ⟨in9, in9, nm_r ue ⟨in9, in9, pk_le (h j) (c j - 1) (fun hle => ?_) (fun hlt => ?_) (by rw [e]; exact (Yh j hj).1) (by rw [e, pk_us]) (by omega) (by omega)⟩⟩
  · refine nm_r (e' := nI (th_over c h - 1)) (by rw [Yl, th_s1 (by omega)]) (H _ _ _ ⟨Yh, c', ?_, ?_⟩)
    · congr 1; omega
    · rw [Yf]; congr 1; omega
  · refine nm_r (e' := nI (th_over h c + 1)) (by rw [Yf, nI_1]) (H _ _ _ ⟨Yh, c', ?_, ?_⟩)
    · rw [Yl]; congr 1; omega
    · congr 1; omega
theorem th_y_tile {post : Int32 → Prop} {sz lk lf lv : Int32} {hv ch gr rs : Nat → Int32} {g i : Nat} (hg : g < 14) (hi : i < 3) (H : post (nI (th_tile g i))) :
    wpY_tile post (sz, lk, lf, lv, hv, ch, gr, rs) (nI g) (nI i) := by
  refine pk_le 9 g (fun h => ?_) (fun h => ?_)
  · have e : nI g - 9 + nI i = nI (th_tile g i) := by
      have := pk_sub (a := g) (b := 9) h
      rw [show (nI 9 : Int32) = 9 from rfl] at this
      rw [this, nI_add]; unfold th_tile; rw [if_neg (by omega)]
    rw [e]; exact H
  · have e : g = th_tile g i := by unfold th_tile; rw [if_pos h]
    rw [← e] at H; exact H
theorem th_y_takeGroup {post : SY → Prop} {h c : Nat → Nat} {sz lk lf lv : Int32} {hv ch gr rs : Nat → Int32} {g : Nat} (hg : g < 14) (hc : ∀ k, k < 9 → c k ≤ 17) (Y : th_YC h c lk lf hv ch)
    (H : ∀ (lk' lf' : Int32) (ch' : Nat → Int32), th_YC h (fun k => c k + th_G g k) lk' lf' hv ch' → post (sz, lk', lf', lv, hv, ch', gr, rs)) :
    wpY_takeGroup post (sz, lk, lf, lv, hv, ch, gr, rs) (nI g) := by
  have step : ∀ (n i : Nat) (c : Nat → Nat) (lk lf : Int32) (ch : Nat → Int32), i < 3 → c (th_tile g i) < 20 → th_YC h c lk lf hv ch →
      (∀ (lk' lf' : Int32) (ch' : Nat → Int32), th_YC h (th_inc c (th_tile g i)) lk' lf' hv ch' → wY_takeGroup_2 post (nI g) n (nI (i + 1)) sz lk' lf' lv hv ch' gr rs) →
      wY_takeGroup_2 post (nI g) (n + 1) (nI i) sz lk lf lv hv ch gr rs := by
    intro n i c lk lf ch hi hc Y K
    refine br_f (nI_ge (b := 3) hi (by omega)) (th_y_tile hg hi (th_y_take (th_tile_lt g hg i hi) hc Y ?_))
    intro lk' lf' ch' Y'
    exact nm_r (nI_1 i) (K lk' lf' ch' Y')
  have b0 := hc _ (th_tile_lt g hg 0 (by omega))
  have b1 := hc _ (th_tile_lt g hg 1 (by omega))
  have b2 := hc _ (th_tile_lt g hg 2 (by omega))
  refine ⟨4, step 3 0 c lk lf ch (by omega) (by omega) Y fun lk1 lf1 ch1 Y1 => step 2 1 _ lk1 lf1 ch1 (by omega) ?_ Y1 fun lk2 lf2 ch2 Y2 => step 1 2 _ lk2 lf2 ch2 (by omega) ?_ Y2 fun lk3 lf3 ch3 Y3 => br_t (nI_le (a := 3) (b := 3) (by omega) (by omega)) (H lk3 lf3 ch3 (th_YC_ext ?_ Y3))⟩
  · unfold th_inc; split <;> omega
  · unfold th_inc; split <;> split <;> omega
  · intro k hk
    unfold th_inc
    rw [th_G_tile g hg k hk]
    omega
theorem th_G_one : ∀ g, g < 14 → ∀ i, i < 3 → 0 < th_G g (th_tile g i) := by decide +kernel
theorem th_y_giveGroup {post : SY → Prop} {h c : Nat → Nat} {sz lk lf lv : Int32} {hv ch gr rs : Nat → Int32} {g : Nat} (hg : g < 14) (hc : ∀ k, k < 9 → th_G g k ≤ c k) (Y : th_YC h c lk lf hv ch)
    (H : ∀ (lk' lf' : Int32) (ch' : Nat → Int32), th_YC h (fun k => c k - th_G g k) lk' lf' hv ch' → post (sz, lk', lf', lv, hv, ch', gr, rs)) :
    wpY_giveGroup post (sz, lk, lf, lv, hv, ch, gr, rs) (nI g) := by
  have step : ∀ (n i : Nat) (c : Nat → Nat) (lk lf : Int32) (ch : Nat → Int32), i < 3 → 0 < c (th_tile g i) → th_YC h c lk lf hv ch →
      (∀ (lk' lf' : Int32) (ch' : Nat → Int32), th_YC h (th_dec c (th_tile g i)) lk' lf' hv ch' → wY_giveGroup_2 post (nI g) n (nI (i + 1)) sz lk' lf' lv hv ch' gr rs) →
      wY_giveGroup_2 post (nI g) (n + 1) (nI i) sz lk lf lv hv ch gr rs := by
    intro n i c lk lf ch hi hc Y K
    refine br_f (nI_ge (b := 3) hi (by omega)) (th_y_tile hg hi (th_y_giveBack (th_tile_lt g hg i hi) hc Y ?_))
    intro lk' lf' ch' Y'
    exact nm_r (nI_1 i) (K lk' lf' ch' Y')
  have t0 := th_tile_lt g hg 0 (by omega)
  have t1 := th_tile_lt g hg 1 (by omega)
  have t2 := th_tile_lt g hg 2 (by omega)
  have b0 := hc _ t0
  have b1 := hc _ t1
  have b2 := hc _ t2
  rw [th_G_tile g hg _ t0, if_pos rfl] at b0
  rw [th_G_tile g hg _ t1] at b1
  rw [th_G_tile g hg _ t2] at b2
  refine ⟨4, step 3 0 c lk lf ch (by omega) (by omega) Y fun lk1 lf1 ch1 Y1 => step 2 1 _ lk1 lf1 ch1 (by omega) ?_ Y1 fun lk2 lf2 ch2 Y2 => step 1 2 _ lk2 lf2 ch2 (by omega) ?_ Y2 fun lk3 lf3 ch3 Y3 => br_t (nI_le (a := 3) (b := 3) (by omega) (by omega)) (H lk3 lf3 ch3 (th_YC_ext ?_ Y3))⟩
  · unfold th_dec
    simp only [if_true] at b1
    split <;> simp_all <;> omega
  · unfold th_dec
    simp only [if_true] at b2
    omega
  · intro k hk
    unfold th_dec
    rw [th_G_tile g hg k hk]
    omega
