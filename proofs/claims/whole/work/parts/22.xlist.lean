/-! the class's constructor: the list of group sets -/
def th_LI (q : Nat) (v : Nat → Nat) (s : Nat) (gt gz : Nat → Int32) : Prop :=
  (∀ q', q' < q → th_srt q' = true → gz (th_nb q') = nI (th_sz q') ∧ ∀ k, k < 9 → gt (th_nb q' * 9 + k) = nI (th_vec q' k)) ∧
  (∀ k, k < 9 → gt (th_nb q * 9 + k) = nI (v k)) ∧ gz (th_nb q) = nI s ∧ (∀ j, (th_nb q + 1) * 9 ≤ j → gt j = 0) ∧ (∀ j, th_nb q < j → gz j = 0)
theorem th_LI_inc {q : Nat} {v : Nat → Nat} {s : Nat} {gt gz : Nat → Int32} {j a : Nat} (hj : j < 9) (L : th_LI q v s gt gz) :
    th_LI q (fun k => v k + if k = j then a else 0) s (upd gt (th_nb q * 9 + j) (gt (th_nb q * 9 + j) + nI a)) gz := by
  obtain ⟨L1, L2, L3, L4, L5⟩ := L
  refine ⟨fun q' h1 h2 => ⟨(L1 q' h1 h2).1, fun k hk => ?_⟩, fun k hk => ?_, L3, fun i hi => ?_, L5⟩
  · have := th_nb_mono h2 h1
    rw [pk_un (by omega)]
    exact (L1 q' h1 h2).2 k hk
  · dsimp only
    by_cases z : k = j
    · subst z; rw [pk_us, L2 k hk, nI_add, if_pos rfl]
    · rw [pk_un (by omega), if_neg z]; exact L2 k hk
  · rw [pk_un (by omega)]; exact L4 i hi
theorem th_LI_sz {q : Nat} {v : Nat → Nat} {s : Nat} {gt gz : Nat → Int32} (L : th_LI q v s gt gz) : th_LI q v (s + 1) gt (upd gz (th_nb q) (nI (s + 1))) := by
  obtain ⟨L1, L2, L3, L4, L5⟩ := L
  refine ⟨fun q' h1 h2 => ⟨?_, (L1 q' h1 h2).2⟩, L2, pk_us, L4, fun i hi => ?_⟩
  · have := th_nb_mono h2 h1
    rw [pk_un (by omega)]
    exact (L1 q' h1 h2).1
  · rw [pk_un (by omega)]; exact L5 i hi
theorem th_LI_ext {q : Nat} {v v' : Nat → Nat} {s s' : Nat} {gt gz : Nat → Int32} (e : ∀ k, k < 9 → v k = v' k) (es : s = s') (L : th_LI q v s gt gz) : th_LI q v' s' gt gz := by
  subst es
  exact ⟨L.1, fun k hk => by rw [← e k hk]; exact L.2.1 k hk, L.2.2⟩
theorem th_LI_next {q : Nat} {gt gz : Nat → Int32} (sr : th_srt q = true) (L : th_LI q (th_vec q) (th_sz q) gt gz) : th_LI (q + 1) (fun _ => 0) 0 gt gz := by
  obtain ⟨L1, L2, L3, L4, L5⟩ := L
  have n := th_nb_s sr
  refine ⟨fun q' h1 h2 => ?_, fun k hk => L4 _ (by rw [n]; omega), L5 _ (by omega), fun j hj => L4 j (by rw [n] at hj; omega), fun j hj => L5 j (by omega)⟩
  by_cases z : q' = q
  · subst z; exact ⟨L3, L2⟩
  · exact L1 q' (by omega) h2
theorem th_LI_gap {q q2 : Nat} {gt gz : Nat → Int32} (hq : q ≤ q2) (g : ∀ x, q ≤ x → x < q2 → th_srt x = false) (L : th_LI q (fun _ => 0) 0 gt gz) : th_LI q2 (fun _ => 0) 0 gt gz := by
  obtain ⟨L1, L2, L3, L4, L5⟩ := L
  have n := th_nb_gap hq g
  refine ⟨fun q' h1 h2 => ?_, by rw [n]; exact L2, by rw [n]; exact L3, by rw [n]; exact L4, by rw [n]; exact L5⟩
  by_cases z : q' < q
  · exact L1 q' z h2
  · rw [g q' (by omega) h1] at h2; cases h2
theorem th_G_run3 : ∀ g, g < 14 → 9 ≤ g → ∀ k, k < 9 → th_G g k = (if k = g - 9 then 1 else 0) + (if k = g - 9 + 1 then 1 else 0) + (if k = g - 9 + 2 then 1 else 0) := by decide +kernel
theorem th_x_lay {post : SX → Prop} {hd cn : Int32} {t gt gz ct : Nat → Int32} {ls : Nat → Int64} {nc q s g : Nat} {v : Nat → Nat} (hg : g ≤ 14) (hn : th_nb q < 680) (L : th_LI q v s gt gz)
    (H : ∀ gt' gz' : Nat → Int32, th_LI q (fun k => v k + th_G g k) (s + th_one g) gt' gz' → post (hd, nI (th_nb q), cn, t, gt', gz', ct, ls, nc)) :
    wpX_layGroup post (hd, nI (th_nb q), cn, t, gt, gz, ct, ls, nc) (nI g) := by
  refine pk_eq g 14 (fun z => ?_) (fun z => ?_)
  · subst z
    exact H gt gz (th_LI_ext (fun k _ => by simp [th_G]) (by simp [th_one]) L)
  · have en : (nI (th_nb q)).toNatClampNeg = th_nb q := nI_clamp (by omega)
    have in6 : vp_in (nI (th_nb q)) 680 := vp_in_nI hn (by omega)
    have o1 : th_one g = 1 := by unfold th_one; rw [if_pos (by omega)]
    have L' := th_LI_sz L
    refine ⟨in6, in6, nm_r (e' := upd gz (th_nb q) (nI (s + 1))) (by rw [en, L.2.2.1, nI_1]) (nm_r (th_m9 _) ?_)⟩
    refine pk_le 9 g (fun h9 => ?_) (fun h9 => ?_)
    · have ex : nI (th_nb q * 9) + nI g - 9 = nI (th_nb q * 9 + (g - 9)) := by
        rw [nI_add, show (9 : Int32) = nI 9 from rfl, pk_sub (by omega)]
        congr 1; omega
      have e0 : (nI (th_nb q * 9 + (g - 9))).toNatClampNeg = th_nb q * 9 + (g - 9) := nI_clamp (by omega)
      have e1 : (nI (th_nb q * 9 + (g - 9) + 1)).toNatClampNeg = th_nb q * 9 + (g - 9 + 1) := nI_clamp (by omega)
      have e2 : (nI (th_nb q * 9 + (g - 9) + 2)).toNatClampNeg = th_nb q * 9 + (g - 9 + 2) := nI_clamp (by omega)
      have A0 := th_LI_inc (j := g - 9) (a := 1) (by omega) L'
      have A1 := th_LI_inc (j := g - 9 + 1) (a := 1) (by omega) A0
      have A2 := th_LI_inc (j := g - 9 + 2) (a := 1) (by omega) A1
      refine nm_r ex ?_
      rw [nI_1, th_2]
      have i0 : vp_in (nI (th_nb q * 9 + (g - 9))) 6120 := vp_in_nI (by omega) (by omega)
      have i1 : vp_in (nI (th_nb q * 9 + (g - 9) + 1)) 6120 := vp_in_nI (by omega) (by omega)
      have i2 : vp_in (nI (th_nb q * 9 + (g - 9) + 2)) 6120 := vp_in_nI (by omega) (by omega)
      refine ⟨i0, i0, nm_r (e' := upd gt (th_nb q * 9 + (g - 9)) (gt (th_nb q * 9 + (g - 9)) + nI 1)) (by rw [e0]; rfl) ⟨i1, i1, nm_e ⟨i2, i2, nm_e (H _ _ ?_)⟩⟩⟩
      rw [e1, e2]
      refine th_LI_ext (fun k hk => ?_) (by omega) A2
      rw [th_G_run3 g (by omega) h9 k hk]
      omega
    · have ex : nI (th_nb q * 9) + nI g = nI (th_nb q * 9 + g) := nI_add _ _
      have e0 : (nI (th_nb q * 9 + g)).toNatClampNeg = th_nb q * 9 + g := nI_clamp (by omega)
      have A0 := th_LI_inc (j := g) (a := 3) (by omega) L'
      have i0 : vp_in (nI (th_nb q * 9 + g)) 6120 := vp_in_nI (by omega) (by omega)
      rw [ex]
      refine ⟨i0, i0, nm_e (H _ _ ?_)⟩
      rw [e0]
      refine th_LI_ext (fun k hk => ?_) (by omega) A0
      rw [th_G_9 g h9 k hk]
theorem th_x_set {post : SX → Prop} {hd cn : Int32} {t gt gz ct : Nat → Int32} {ls : Nat → Int64} {nc a b c : Nat} (hab : a ≤ b) (hbc : b ≤ c) (hc : c ≤ 14) (L : th_LI (a * 225 + b * 15 + c) (fun _ => 0) 0 gt gz)
    (H : ∀ gt' gz' : Nat → Int32, th_LI (a * 225 + b * 15 + c + 1) (fun _ => 0) 0 gt' gz' → post (hd, nI (th_nb (a * 225 + b * 15 + c + 1)), cn, t, gt', gz', ct, ls, nc)) :
    wpX_listGroupSet post (hd, nI (th_nb (a * 225 + b * 15 + c)), cn, t, gt, gz, ct, ls, nc) (nI a) (nI b) (nI c) := by
  have sr : th_srt (a * 225 + b * 15 + c) = true := by rw [th_srt_iff]; omega
  have hn := th_nb_lt (q := a * 225 + b * 15 + c) (by omega) sr
  have da : th_a (a * 225 + b * 15 + c) = a := by unfold th_a; omega
  have db : th_b (a * 225 + b * 15 + c) = b := by unfold th_b; omega
  have dc : th_c (a * 225 + b * 15 + c) = c := by unfold th_c; omega
  refine br_t (nI_lt (b := 680) hn (by omega)) ?_
  refine th_x_lay (by omega) hn L fun gt1 gz1 L1 => ?_
  refine th_x_lay (by omega) hn L1 fun gt2 gz2 L2 => ?_
  refine th_x_lay (by omega) hn L2 fun gt3 gz3 L3 => ?_
  have n := th_nb_s sr
  refine nm_r (e' := nI (th_nb (a * 225 + b * 15 + c + 1))) (by rw [n, nI_1]) (H gt3 gz3 (th_LI_next sr (th_LI_ext (fun k hk => ?_) ?_ L3)))
  · unfold th_vec
    rw [da, db, dc]
    omega
  · unfold th_sz
    rw [da, db, dc]
    omega
theorem th_x_sets3 {post : SX → Prop} {J2 J10 : Int32 → Int32 → Int32 → Int32 → (Nat → Int32) → (Nat → Int32) → (Nat → Int32) → (Nat → Int32) → (Nat → Int64) → Nat → Prop} {hd cn : Int32} {t ct : Nat → Int32} {ls : Nat → Int64} {nc a b : Nat} (hab : a ≤ b) (hb : b ≤ 14)
    (H : ∀ gt' gz' : Nat → Int32, th_LI (a * 225 + b * 15 + 15) (fun _ => 0) 0 gt' gz' → J10 (nI (b + 1)) hd (nI (th_nb (a * 225 + b * 15 + 15))) cn t gt' gz' ct ls nc) :
    ∀ (n c : Nat) (gt gz : Nat → Int32), b ≤ c → c ≤ 15 → 15 - c < n → th_LI (a * 225 + b * 15 + c) (fun _ => 0) 0 gt gz →
      wX_listGroupSets_18 post J2 J10 (nI a) (nI b) n (nI c) hd (nI (th_nb (a * 225 + b * 15 + c))) cn t gt gz ct ls nc := by
  intro n
  induction n with
  | zero => intro c gt gz _ _ h; omega
  | succ n ih =>
    intro c gt gz h1 h2 h3 L
    by_cases z : c = 15
    · subst z
      exact br_t (nI_lt (a := 14) (by omega) (by omega)) (nm_r (nI_1 b) (H gt gz L))
    · refine br_f (nI_nlt (b := c) (a := 14) (by omega) (by omega)) (th_x_set hab h1 (by omega) L fun gt' gz' L' => ?_)
      exact nm_r (nI_1 c) (ih (c + 1) gt' gz' (by omega) (by omega) (by omega) L')
theorem th_x_sets2 {post : SX → Prop} {J2 : Int32 → Int32 → Int32 → Int32 → (Nat → Int32) → (Nat → Int32) → (Nat → Int32) → (Nat → Int32) → (Nat → Int64) → Nat → Prop} {hd cn : Int32} {t ct : Nat → Int32} {ls : Nat → Int64} {nc a : Nat} (ha : a ≤ 14)
    (H : ∀ gt' gz' : Nat → Int32, th_LI (a * 225 + 15 * 15) (fun _ => 0) 0 gt' gz' → J2 (nI (a + 1)) hd (nI (th_nb (a * 225 + 15 * 15))) cn t gt' gz' ct ls nc) :
    ∀ (n b : Nat) (gt gz : Nat → Int32), a ≤ b → b ≤ 15 → 15 - b < n → th_LI (a * 225 + b * 15) (fun _ => 0) 0 gt gz →
      wX_listGroupSets_10 post J2 (nI a) n (nI b) hd (nI (th_nb (a * 225 + b * 15))) cn t gt gz ct ls nc := by
  intro n
  induction n with
  | zero => intro c gt gz _ _ h; omega
  | succ n ih =>
    intro b gt gz h1 h2 h3 L
    by_cases z : b = 15
    · subst z
      exact br_t (nI_lt (a := 14) (by omega) (by omega)) (nm_r (nI_1 a) (H gt gz L))
    · have g : ∀ x, a * 225 + b * 15 ≤ x → x < a * 225 + b * 15 + b → th_srt x = false := by
        intro x x1 x2
        rw [th_srt_no]
        omega
      have L' := th_LI_gap (by omega) g L
      have nb := th_nb_gap (by omega) g
      refine br_f (nI_nlt (b := b) (a := 14) (by omega) (by omega)) ⟨16, ?_⟩
      rw [← nb]
      refine th_x_sets3 h1 (by omega) (fun gt' gz' L2 => ?_) 16 b gt gz (by omega) (by omega) (by omega) L'
      have e : a * 225 + b * 15 + 15 = a * 225 + (b + 1) * 15 := by omega
      rw [e] at L2 ⊢
      exact ih (b + 1) gt' gz' (by omega) (by omega) (by omega) L2
theorem th_x_sets1 {post : SX → Prop} {hd cn : Int32} {t ct : Nat → Int32} {ls : Nat → Int64} {nc : Nat}
    (H : ∀ (gs : Int32) (gt' gz' : Nat → Int32), th_LI 3375 (fun _ => 0) 0 gt' gz' → post (hd, gs, cn, t, gt', gz', ct, ls, nc)) :
    ∀ (n a : Nat) (gt gz : Nat → Int32), a ≤ 15 → 15 - a < n → th_LI (a * 225) (fun _ => 0) 0 gt gz →
      wX_listGroupSets_2 post n (nI a) hd (nI (th_nb (a * 225))) cn t gt gz ct ls nc := by
  intro n
  induction n with
  | zero => intro a gt gz _ h; omega
  | succ n ih =>
    intro a gt gz h1 h2 L
    by_cases z : a = 15
    · subst z
      exact br_t (nI_lt (a := 14) (by omega) (by omega)) (H _ gt gz L)
    · have g : ∀ x, a * 225 ≤ x → x < a * 225 + a * 15 → th_srt x = false := by
        intro x x1 x2
        rw [th_srt_no]
        omega
      have L' := th_LI_gap (by omega) g L
      have nb := th_nb_gap (by omega) g
      refine br_f (nI_nlt (b := a) (a := 14) (by omega) (by omega)) ⟨16, ?_⟩
      rw [← nb]
      refine th_x_sets2 (by omega) (fun gt' gz' L2 => ?_) 16 a gt gz (by omega) (by omega) (by omega) L'
      have e : a * 225 + 15 * 15 = (a + 1) * 225 := by omega
      rw [e] at L2 ⊢
      exact ih (a + 1) gt' gz' (by omega) (by omega) L2
theorem th_x_listSets {post : SX → Prop} {hd cn : Int32} {t ct : Nat → Int32} {ls : Nat → Int64} {nc : Nat}
    (H : ∀ (gs : Int32) (gt' gz' : Nat → Int32), th_RG gt' gz' → post (hd, gs, cn, t, gt', gz', ct, ls, nc)) :
    wpX_listGroupSets post (hd, 0, cn, t, (fun _ => 0), (fun _ => 0), ct, ls, nc) := by
  refine ⟨16, th_x_sets1 (fun gs gt' gz' L => H gs gt' gz' fun i hi => ?_) 16 0 _ _ (by omega) (by omega) ⟨fun q' h => absurd h (by omega), fun k hk => rfl, rfl, fun j _ => rfl, fun j _ => rfl⟩⟩
  obtain ⟨a, b, c⟩ := th_qi_s hi
  have := L.1 (th_qi i) a b
  rw [c] at this
  exact this
