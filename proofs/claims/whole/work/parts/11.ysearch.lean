/-! the reference: fits, choose, deeper -/
theorem th_G_9 : ∀ g, g < 9 → ∀ k, k < 9 → th_G g k = if k = g then 3 else 0 := by decide +kernel
theorem th_G_run : ∀ g, g < 14 → 9 ≤ g → ∀ k, k < 9 → th_G g k = 0 ∨ (th_G g k = 1 ∧ (k = th_tile g 0 ∨ k = th_tile g 1 ∨ k = th_tile g 2)) := by decide +kernel
def th_own (own : Int32) (h cap : Nat → Nat) : Prop := (own = 0 ∧ ∀ k, k < 9 → cap k = 4) ∨ (own = 1 ∧ ∀ k, k < 9 → cap k = h k)
theorem th_y_fits {post : Int32 → Prop} {h c cap : Nat → Nat} {sz lk lf lv own : Int32} {hv ch gr rs : Nat → Int32} {g : Nat} (hg : g < 14) (O : th_own own h cap) (hc : ∀ k, k < 9 → c k ≤ cap k) (Y : th_YC h c lk lf hv ch)
    (H1 : (∀ k, k < 9 → c k + th_G g k ≤ cap k) → post 1) (H0 : ¬ (∀ k, k < 9 → c k + th_G g k ≤ cap k) → post 0) :
    wpY_fits post (sz, lk, lf, lv, hv, ch, gr, rs) (nI g) own := by
  obtain ⟨Yh, Yc, _, _⟩ := Y
  have capb : ∀ k, k < 9 → cap k ≤ 20 := by
    intro k hk
    rcases O with ⟨_, O⟩ | ⟨_, O⟩
    · have := O k hk; omega
    · have := O k hk; have := (Yh k hk).2; omega
  refine pk_le 9 g (fun h9 => ?_) (fun h9 => ?_)
  · have step : ∀ (n i : Nat), i < 3 → (c (th_tile g i) + 1 ≤ cap (th_tile g i) → wY_fits_39 post (nI g) own sz lk lf lv hv ch gr rs n (nI (i + 1))) →
        wY_fits_39 post (nI g) own sz lk lf lv hv ch gr rs (n + 1) (nI i) := by
      intro n i hi K
      have t := th_tile_lt g hg i hi
      have e : (nI (th_tile g i)).toNatClampNeg = th_tile g i := nI_clamp (by omega)
      have ec : ch (nI (th_tile g i)).toNatClampNeg + 1 = nI (c (th_tile g i) + 1) := by rw [e, (Yc _ t).1, nI_1]
      have b1 := (Yc _ t).2
      have b2 := capb _ t
      have no : c (th_tile g i) + 1 > cap (th_tile g i) → post 0 := fun hn => H0 fun z => by
        have := z _ t
        have := th_G_one g hg i hi
        omega
      refine br_f (nI_ge (b := 3) hi (by omega)) (th_y_tile hg hi ⟨vp_in_nI t (by omega), ?_⟩)
      rcases O with ⟨O1, O⟩ | ⟨O1, O⟩
      · refine br_t O1 (pk_le (c (th_tile g i) + 1) 4 (fun hle => nm_r (nI_1 i) (K (by rw [O _ t]; exact hle))) (fun hlt => no (by rw [O _ t]; exact hlt)) ec rfl (by omega) (by omega))
      · refine br_f (by rw [O1]; decide) ⟨vp_in_nI t (by omega), pk_le (c (th_tile g i) + 1) (cap (th_tile g i)) (fun hle => nm_r (nI_1 i) (K hle)) (fun hlt => no hlt) ec (by rw [e, (Yh _ t).1, O _ t]) (by omega) (by omega)⟩
    refine ⟨4, step 3 0 (by omega) fun a0 => step 2 1 (by omega) fun a1 => step 1 2 (by omega) fun a2 => br_t (nI_le (a := 3) (b := 3) (by omega) (by omega)) (H1 ?_)⟩
    intro k hk
    rcases th_G_run g hg h9 k hk with z | ⟨z, y⟩
    · rw [z]; exact hc k hk
    · rw [z]
      rcases y with y | y | y <;> rw [y] <;> assumption
  · have e : (nI g).toNatClampNeg = g := nI_clamp (by omega)
    have ec : ch (nI g).toNatClampNeg + 3 = nI (c g + 3) := by rw [e, (Yc g h9).1, th_3]
    have b1 := (Yc _ h9).2
    have b2 := capb _ h9
    have yes : c g + 3 ≤ cap g → post 1 := fun y => H1 fun k hk => by
      rw [th_G_9 g h9 k hk]
      split
      · rename_i z; rw [z]; exact y
      · exact hc k hk
    have no : cap g < c g + 3 → post 0 := fun y => H0 fun z => by
      have := z g h9
      rw [th_G_9 g h9 g h9, if_pos rfl] at this
      omega
    refine ⟨vp_in_nI h9 (by omega), ?_⟩
    rcases O with ⟨O1, O⟩ | ⟨O1, O⟩
    · exact br_t O1 (pk_lt 4 (c g + 3) (fun a => no (by rw [O g h9]; exact a)) (fun a => yes (by rw [O g h9]; exact a)) rfl ec (by omega) (by omega))
    · exact br_f (by rw [O1]; decide) ⟨vp_in_nI h9 (by omega), pk_lt (cap g) (c g + 3) no yes (by rw [e, (Yh g h9).1, O g h9]) ec (by omega) (by omega)⟩
/-- the search stands at level l, with the groups g0, g1 taken, next candidate e -/
def th_SS (h base cap : Nat → Nat) (l g0 g1 e : Nat) (lk lf lv : Int32) (hv ch gr : Nat → Int32) : Prop :=
  th_wf l g0 g1 e ∧ th_YC h (th_ch base l g0 g1) lk lf hv ch ∧ (∀ k, k < 9 → th_ch base l g0 g1 k ≤ cap k) ∧ lv = nI l ∧ (1 ≤ l → gr 0 = nI g0) ∧ (2 ≤ l → gr 1 = nI g1) ∧ gr l + 1 = nI e
/-- and with e taken -/
def th_TS (h base cap : Nat → Nat) (l g0 g1 e : Nat) (lk lf lv : Int32) (hv ch gr : Nat → Int32) : Prop :=
  th_wf l g0 g1 e ∧ e ≤ 13 ∧ th_YC h (fun k => th_ch base l g0 g1 k + th_G e k) lk lf hv ch ∧ (∀ k, k < 9 → th_ch base l g0 g1 k + th_G e k ≤ cap k) ∧ lv = nI l ∧ (1 ≤ l → gr 0 = nI g0) ∧ (2 ≤ l → gr 1 = nI g1) ∧ gr l = nI e
theorem th_y_choose {post : Int32 → SY → Prop} {h base cap : Nat → Nat} {sz lk lf lv own : Int32} {hv ch gr rs : Nat → Int32} {l g0 g1 e : Nat} (O : th_own own h cap) (hcap : ∀ k, k < 9 → cap k ≤ 17)
    (S : th_SS h base cap l g0 g1 e lk lf lv hv ch gr)
    (H1 : e = 14 → l = 0 → ∀ (gr' : Nat → Int32), post 0 (sz, lk, lf, -1, hv, ch, gr', rs))
    (H2 : e = 14 → 1 ≤ l → ∀ (lk' lf' lv' : Int32) (ch' gr' : Nat → Int32), th_SS h base cap (l - 1) g0 g1 (th_gl l g0 g1 + 1) lk' lf' lv' hv ch' gr' → post 0 (sz, lk', lf', lv', hv, ch', gr', rs))
    (H3 : e ≤ 13 → ¬ (∀ k, k < 9 → th_ch base l g0 g1 k + th_G e k ≤ cap k) → ∀ (gr' : Nat → Int32), th_SS h base cap l g0 g1 (e + 1) lk lf lv hv ch gr' → post 0 (sz, lk, lf, lv, hv, ch, gr', rs))
    (H4 : e ≤ 13 → ∀ (lk' lf' : Int32) (ch' gr' : Nat → Int32), th_TS h base cap l g0 g1 e lk' lf' lv hv ch' gr' → post 1 (sz, lk', lf', lv, hv, ch', gr', rs)) :
    wpY_choose post (sz, lk, lf, lv, hv, ch, gr, rs) own := by
  obtain ⟨w, Y, hc, rfl, G0, G1, Ge⟩ := S
  have w' := w
  obtain ⟨w1, w2, w3, w4⟩ := w'
  have e1 : (nI l).toNatClampNeg = l := nI_clamp (by omega)
  have in4 : vp_in (nI l) 4 := vp_in_nI (by omega) (by omega)
  have ge : upd gr l (nI e) (nI l).toNatClampNeg = nI e := by rw [e1]; exact pk_us
  have g0' : 1 ≤ l → upd gr l (nI e) 0 = nI g0 := fun z => by rw [pk_un (by omega)]; exact G0 z
  have g1' : 2 ≤ l → upd gr l (nI e) 1 = nI g1 := fun z => by rw [pk_un (by omega)]; exact G1 z
  refine ⟨in4, in4, nm_r (e' := upd gr l (nI e)) (by rw [e1, Ge]) ⟨in4, ?_⟩⟩
  by_cases h13 : e ≤ 13
  · refine br_t (by rw [ge]; exact nI_le (b := 13) h13 (by omega)) ⟨in4, ?_⟩
    rw [ge]
    refine th_y_fits (cap := cap) (by omega) O hc Y (fun hf => ?_) (fun hf => ?_)
    · refine br_f (by decide) ⟨in4, th_y_takeGroup (by omega) (fun k hk => by have := hc k hk; have := hcap k hk; omega) Y ?_⟩
      intro lk' lf' ch' Y'
      exact H4 h13 lk' lf' ch' _ ⟨w, h13, Y', hf, rfl, g0', g1', pk_us⟩
    · refine br_t rfl (H3 h13 hf _ ⟨th_wf_next w h13, Y, hc, rfl, g0', g1', ?_⟩)
      rw [pk_us, nI_1]
  · have e14 : e = 14 := by omega
    subst e14
    refine br_f (by rw [ge]; exact nI_ge (a := 13) (by omega) (by omega)) ?_
    by_cases hl : l = 0
    · subst hl
      exact nm_r (e' := -1) (by decide) (br_t (by decide) (H1 rfl rfl _))
    · obtain ⟨u1, u2⟩ := th_wf_up w (by omega)
      have gl : upd gr l (nI 14) (nI (l - 1)).toNatClampNeg = nI (th_gl l g0 g1) := by
        rw [nI_clamp (by omega), pk_un (by omega)]
        unfold th_gl
        by_cases z : l = 1
        · subst z; exact G0 (by omega)
        · have z2 : l = 2 := by omega
          subst z2; exact G1 (by omega)
      refine nm_r (th_s1 (by omega)) (br_f (nI_pos (by omega)) ⟨vp_in_nI (by omega) (by omega), ?_⟩)
      rw [gl]
      refine th_y_giveGroup (by omega) (fun k hk => by rw [th_ch_up (by omega) w1]; omega) Y ?_
      intro lk' lf' ch' Y'
      have cu : ∀ k, th_ch base l g0 g1 k - th_G (th_gl l g0 g1) k = th_ch base (l - 1) g0 g1 k := fun k => by rw [th_ch_up (by omega) w1]; omega
      refine H2 rfl (by omega) lk' lf' _ ch' _ ⟨u1, th_YC_ext (fun k hk => cu k) Y', fun k hk => ?_, rfl, fun z => g0' (by omega), fun z => g1' (by omega), ?_⟩
      · rw [← cu k]; have := hc k hk; omega
      · have := gl
        rw [nI_clamp (by omega)] at this
        rw [this, nI_1]
/-- the group taken last is given back -/
theorem th_y_give {post : SY → Prop} {h base cap : Nat → Nat} {sz lk lf lv : Int32} {hv ch gr rs : Nat → Int32} {l g0 g1 e : Nat} (S : th_TS h base cap l g0 g1 e lk lf lv hv ch gr)
    (H : ∀ (lk' lf' : Int32) (ch' : Nat → Int32), th_SS h base cap l g0 g1 (e + 1) lk' lf' lv hv ch' gr → post (sz, lk', lf', lv, hv, ch', gr, rs)) :
    vp_in lv 4 ∧ wpY_giveGroup post (sz, lk, lf, lv, hv, ch, gr, rs) (gr lv.toNatClampNeg) := by
  obtain ⟨w, h13, Y, hc, rfl, G0, G1, Ge⟩ := S
  have w1 := w.1
  have e1 : (nI l).toNatClampNeg = l := nI_clamp (by omega)
  refine ⟨vp_in_nI (by omega) (by omega), ?_⟩
  rw [e1, Ge]
  refine th_y_giveGroup (by omega) (fun k hk => by omega) Y ?_
  intro lk' lf' ch' Y'
  refine H lk' lf' ch' ⟨th_wf_next w h13, th_YC_ext (fun k hk => by omega) Y', fun k hk => by have := hc k hk; omega, rfl, G0, G1, ?_⟩
  rw [Ge, nI_1]
theorem th_y_deeper {post : SY → Prop} {h base cap : Nat → Nat} {sz lk lf lv : Int32} {hv ch gr rs : Nat → Int32} {l g0 g1 e : Nat} (hl : l < 2) (S : th_TS h base cap l g0 g1 e lk lf lv hv ch gr)
    (H : ∀ (lv' : Int32) (gr' : Nat → Int32), th_SS h base cap (l + 1) (th_n0 l g0 e) (th_n1 l g1 e) e lk lf lv' hv ch gr' → post (sz, lk, lf, lv', hv, ch, gr', rs)) :
    wpY_deeper post (sz, lk, lf, lv, hv, ch, gr, rs) := by
  obtain ⟨w, h13, Y, hc, rfl, G0, G1, Ge⟩ := S
  have e1 : (nI (l + 1)).toNatClampNeg = l + 1 := nI_clamp (by omega)
  refine nm_r (nI_1 l) ?_
  rw [nI_pred]
  refine ⟨vp_in_nI (by omega) (by omega), vp_in_nI (by omega) (by omega), nm_r (e' := upd gr (l + 1) (nI e - 1)) (by rw [e1, nI_clamp (by omega), Ge]) ?_⟩
  refine H _ _ ⟨th_wf_deep w h13 hl, th_YC_ext (fun k hk => (th_ch_deep hl k).symm) Y, fun k hk => by rw [th_ch_deep hl]; exact hc k hk, rfl, fun _ => ?_, fun _ => ?_, ?_⟩
  · rw [pk_un (by omega)]
    unfold th_n0
    by_cases z : l = 0
    · subst z; rw [Ge, if_pos rfl]
    · rw [if_neg z]; exact G0 (by omega)
  · have z : l = 1 := by omega
    subst z
    rw [pk_un (by omega), Ge]; rfl
  · rw [pk_us, Int32.sub_add_cancel]
