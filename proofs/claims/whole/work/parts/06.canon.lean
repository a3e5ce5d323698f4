theorem th_ckr_u {a b q p : Nat} (h : th_ckr a b = true) (h1 : a ≤ q) (h2 : q < a + b) (hp : p < 9) : th_ck q p = true := by
  unfold th_ckr at h
  simp only [List.all_eq_true, List.mem_range] at h
  have := h (q - a) (by omega) p hp
  rwa [show a + (q - a) = q by omega] at this
theorem th_ck_all {q p : Nat} (hq : q < 3375) (hp : p < 9) : th_ck q p = true := by
  by_cases h1 : q < 225
  · exact th_ckr_u th_ck_1 (by omega) (by omega) hp
  · by_cases h2 : q < 675
    · exact th_ckr_u th_ck_2 (by omega) (by omega) hp
    · by_cases h3 : q < 1575
      · exact th_ckr_u th_ck_3 (by omega) (by omega) hp
      · exact th_ckr_u th_ck_4 (by omega) (by omega) hp
theorem th_dv_ext {w w' : Nat → Nat} : ∀ n k r1 r2, (∀ j, j < k + n → w j = w' j) → th_dv w n k r1 r2 = th_dv w' n k r1 r2
  | 0, _, _, _, _ => rfl
  | n + 1, k, r1, r2, h => by
    unfold th_dv
    rw [h k (by omega)]
    split
    · rfl
    · split
      · rfl
      · exact th_dv_ext n (k + 1) _ _ (fun j hj => h j (by omega))
theorem th_dvp_ext {w w' : Nat → Nat} {r : Nat} (hr : r < 9) (h : ∀ j, j < 9 → w j = w' j) : th_dvp w r = th_dvp w' r := by
  unfold th_dvp
  rw [h r hr, th_dv_ext 9 0 0 0 (w := th_sub w r) (w' := th_sub w' r)]
  intro j hj
  unfold th_sub
  rw [h j (by omega)]
theorem th_fp_lo {w : Nat → Nat} : ∀ n p r, p ≤ r → r < th_fp w n p → th_dvp w r = false
  | 0, p, r, h1, h2 => absurd h2 (by show ¬ r < p; omega)
  | n + 1, p, r, h1, h2 => by
    unfold th_fp at h2
    cases e : th_dvp w p with
    | true => rw [e] at h2; simp at h2; omega
    | false =>
      rw [e] at h2
      simp at h2
      by_cases z : r = p
      · rw [z]; exact e
      · exact th_fp_lo n (p + 1) r (by omega) h2
theorem th_fp_at {w : Nat → Nat} : ∀ n p, th_fp w n p < p + n → th_dvp w (th_fp w n p) = true
  | 0, p, h => absurd h (by show ¬ p < p + 0; omega)
  | n + 1, p, h => by
    unfold th_fp at h ⊢
    cases e : th_dvp w p with
    | true => simp [e]
    | false =>
      rw [e] at h
      simp at h ⊢
      exact th_fp_at n (p + 1) (by omega)
/-- the reference counts the hand of q and p -/
def th_cn (q p : Nat) : Bool := !th_trip q && (List.range p).all fun r => !th_dvp (th_cv q p) r
theorem th_cn_iff {q p : Nat} : th_cn q p = true ↔ th_trip q = false ∧ ∀ r, r < p → th_dvp (th_cv q p) r = false := by
  unfold th_cn
  simp only [Bool.and_eq_true, Bool.not_eq_true', List.all_eq_true, List.mem_range]
theorem th_val_dg {q p : Nat} (h : th_val q p = true) {r : Nat} (hr : r < 9) : th_dvp (th_dg (th_code (th_cv q p))) r = th_dvp (th_cv q p) r :=
  th_dvp_ext hr (th_dg_code (th_val_iff.mp h).2.2)
/-- what the check says of a pair (q, p) -/
theorem th_ck_use {q p : Nat} (hq : q < 3375) (hp : p < 9) (h : th_val q p = true) : ∃ p' q', p' = th_fp (th_dg (th_code (th_cv q p))) 9 0 ∧
    q' = th_cq (th_sub (th_dg (th_code (th_cv q p))) p') 9 0 0 0 0 0 1 ∧
    th_dvp (th_dg (th_code (th_cv q p))) p = true ∧ q' < 3375 ∧ p' < 9 ∧ th_val q' p' = true ∧ th_trip q' = false ∧ th_code (th_cv q' p') = th_code (th_cv q p) ∧
    (th_trip q = true ∨ p' ≠ p ∨ q' = q) := by
  have c := th_ck_all hq hp
  unfold th_ck at c
  rw [h] at c
  simp only [Bool.not_true, Bool.false_or] at c
  unfold th_ckx th_cky at c
  rw [Bool.and_eq_true] at c
  refine ⟨_, _, rfl, rfl, c.1, ?_⟩
  have d := c.2
  unfold th_ckz at d
  simp only [Bool.and_eq_true, Bool.or_eq_true, Bool.not_eq_true', decide_eq_true_eq, decide_eq_false_iff_not, or_assoc] at d
  exact ⟨d.1.1.1.1.1, d.1.1.1.1.2, d.1.1.1.2, d.1.1.2, d.1.2, d.2⟩
theorem th_C1 {q p : Nat} (hq : q < 3375) (hp : p < 9) (h : th_val q p = true) : ∃ q' p', q' < 3375 ∧ p' < 9 ∧ th_val q' p' = true ∧ th_cn q' p' = true ∧
    th_code (th_cv q' p') = th_code (th_cv q p) := by
  obtain ⟨p', q', e1, e2, c0, c1, c2, c3, c4, c5, c6⟩ := th_ck_use hq hp h
  refine ⟨q', p', c1, c2, c3, th_cn_iff.mpr ⟨c4, fun r hr => ?_⟩, c5⟩
  rw [← th_val_dg c3 (by omega), c5]
  exact th_fp_lo 9 0 r (by omega) (by rw [← e1]; exact hr)
theorem th_C2a {q p : Nat} (hq : q < 3375) (hp : p < 9) (h : th_val q p = true) (c : th_cn q p = true) :
    p = th_fp (th_dg (th_code (th_cv q p))) 9 0 ∧ q = th_cq (th_sub (th_dg (th_code (th_cv q p))) p) 9 0 0 0 0 0 1 := by
  obtain ⟨p', q', e1, e2, c0, c1, c2, c3, c4, c5, c6⟩ := th_ck_use hq hp h
  obtain ⟨n1, n2⟩ := th_cn_iff.mp c
  have ep : p' = p := by
    rcases Nat.lt_trichotomy p' p with l | l | l
    · have z := th_fp_at (w := th_dg (th_code (th_cv q p))) 9 0 (by rw [← e1]; omega)
      rw [← e1, th_val_dg h c2, n2 p' l] at z
      cases z
    · exact l
    · have z := th_fp_lo (w := th_dg (th_code (th_cv q p))) 9 0 p (by omega) (by rw [← e1]; exact l)
      rw [c0] at z
      cases z
  subst ep
  refine ⟨e1, ?_⟩
  rcases c6 with z | z | z
  · rw [n1] at z; cases z
  · exact absurd rfl z
  · rw [← e2, z]
theorem th_C2 {q p q' p' : Nat} (hq : q < 3375) (hp : p < 9) (h : th_val q p = true) (c : th_cn q p = true) (hq' : q' < 3375) (hp' : p' < 9) (h' : th_val q' p' = true) (c' : th_cn q' p' = true)
    (e : th_code (th_cv q p) = th_code (th_cv q' p')) : q = q' ∧ p = p' := by
  obtain ⟨a1, a2⟩ := th_C2a hq hp h c
  obtain ⟨b1, b2⟩ := th_C2a hq' hp' h' c'
  have ep : p = p' := by rw [a1, b1, e]
  subst ep
  exact ⟨by rw [a2, b2, e], rfl⟩
/-- lists -/
theorem th_nd_map {l : List Nat} {f : Nat → Nat} (nd : l.Nodup) (inj : ∀ a, a ∈ l → ∀ b, b ∈ l → f a = f b → a = b) : (l.map f).Nodup := by
  rw [List.nodup_iff_pairwise_ne, List.pairwise_map]
  exact List.Pairwise.imp_of_mem (fun {a b} ha hb n e => n (inj a ha b hb e)) nd
theorem th_cnt_range (P : Nat → Bool) : ∀ n, (List.range n).countP P = th_cnt P n
  | 0 => rfl
  | n + 1 => by
    rw [List.range_succ, List.countP_append, th_cnt_range P n]
    show _ = th_cnt P n + (if P n then 1 else 0)
    cases e : P n <;> simp [e]
theorem th_sum_range (f : Nat → Nat) : ∀ n, ((List.range n).map f).sum = th_ps f n
  | 0 => rfl
  | n + 1 => by
    rw [List.range_succ, List.map_append, List.sum_append, th_sum_range f n]
    simp [th_ps]
def th_LY : List Nat := (List.range 9).flatMap fun p => ((List.range 3375).filter fun q => th_val q p && th_cn q p).map fun q => th_code (th_cv q p)
theorem th_LY_mem {x : Nat} : x ∈ th_LY ↔ th_CH x := by
  unfold th_LY th_CH
  simp only [List.mem_flatMap, List.mem_map, List.mem_filter, List.mem_range, Bool.and_eq_true]
  constructor
  · rintro ⟨p, hp, q, ⟨hq, hv, hc⟩, e⟩
    exact ⟨q, p, hq, hp, hv, e.symm⟩
  · rintro ⟨q, p, hq, hp, hv, e⟩
    obtain ⟨q', p', a1, a2, a3, a4, a5⟩ := th_C1 hq hp hv
    exact ⟨p', a2, q', ⟨a1, a3, a4⟩, by rw [a5, e]⟩
theorem th_LY_nd : th_LY.Nodup := by
  unfold th_LY
  rw [List.nodup_iff_pairwise_ne, List.pairwise_flatMap]
  constructor
  · intro p hp
    refine th_nd_map (List.Pairwise.filter _ (List.nodup_iff_pairwise_ne.mp List.nodup_range)) ?_
    intro a ha b hb e
    simp only [List.mem_filter, List.mem_range, Bool.and_eq_true] at ha hb hp
    exact (th_C2 ha.1 hp ha.2.1 ha.2.2 hb.1 hp hb.2.1 hb.2.2 e).1
  · refine List.Pairwise.imp_of_mem ?_ (List.nodup_iff_pairwise_ne.mp List.nodup_range)
    intro p p' hp hp' n x hx y hy e
    simp only [List.mem_map, List.mem_filter, List.mem_range, Bool.and_eq_true] at hx hy hp hp'
    obtain ⟨q, hq, e1⟩ := hx
    obtain ⟨q', hq', e2⟩ := hy
    exact n (th_C2 hq.1 hp hq.2.1 hq.2.2 hq'.1 hp' hq'.2.1 hq'.2.2 (by rw [e1, e2, e])).2
/-- any list of the complete hands without repetition counts as the reference does -/
theorem th_compl {m : Nat} {l : Nat → Nat} (inj : ∀ i j, i < m → j < m → l i = l j → i = j) (mem : ∀ x, th_CH x ↔ ∃ i, i < m ∧ l i = x) (P : Nat → Bool) :
    th_cnt (fun i => P (l i)) m = th_ps (fun p => th_cnt (fun q => th_val q p && th_cn q p && P (th_code (th_cv q p))) 3375) 9 := by
  have nd : ((List.range m).map l).Nodup := by
    refine th_nd_map List.nodup_range ?_
    intro a ha b hb e
    exact inj a b (List.mem_range.mp ha) (List.mem_range.mp hb) e
  have pm : ((List.range m).map l).Perm th_LY := by
    rw [List.perm_ext_iff_of_nodup nd th_LY_nd]
    intro x
    rw [th_LY_mem, mem x]
    simp only [List.mem_map, List.mem_range]
  have e := List.Perm.countP_eq P pm
  rw [List.countP_map, th_cnt_range] at e
  have e' : th_cnt (fun i => P (l i)) m = th_LY.countP P := e
  rw [e']
  unfold th_LY
  rw [List.countP_flatMap, th_sum_range]
  have : ∀ n, th_ps (List.countP P ∘ fun p => ((List.range 3375).filter fun q => th_val q p && th_cn q p).map fun q => th_code (th_cv q p)) n =
      th_ps (fun p => th_cnt (fun q => th_val q p && th_cn q p && P (th_code (th_cv q p))) 3375) n := by
    intro n
    induction n with
    | zero => rfl
    | succ n ih =>
      unfold th_ps
      rw [ih]
      congr 1
      show List.countP P (((List.range 3375).filter fun q => th_val q n && th_cn q n).map fun q => th_code (th_cv q n)) = _
      rw [List.countP_map, List.countP_filter, th_cnt_range]
      exact th_cnt_ext 3375 (fun q _ => by
        show (P (th_code (th_cv q n)) && (th_val q n && th_cn q n)) = (th_val q n && th_cn q n && P (th_code (th_cv q n)))
        rw [Bool.and_comm])
  exact this 9
