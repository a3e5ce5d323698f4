/-! the class's constructor: the list of complete hands -/
theorem th_bits {ls : Nat → Int64} {x y : Nat} : th_lb (vp_updL ls (x / 64) (ls (x / 64) ||| ((1 : Int64) <<< ((nI (x % 64)).toInt64 &&& 63))) (y / 64)) (y % 64) = (th_lb (ls (y / 64)) (y % 64) || decide (y = x)) := by
  by_cases z : y / 64 = x / 64
  · rw [z, pk_uLs, th_lor (by omega) (by omega)]
    congr 1
    rw [decide_eq_decide]
    omega
  · rw [pk_uLn z]
    have : ¬ y = x := fun e => z (by rw [e])
    rw [decide_eq_false this, Bool.or_false]
theorem th_x_mark {post : Int32 → SX → Prop} {hd gs cn : Int32} {t gt gz ct : Nat → Int32} {ls : Nat → Int64} {nc x : Nat} (hx : x < 1953125)
    (H : ∀ ls' : Nat → Int64, (∀ y, th_lb (ls' (y / 64)) (y % 64) = (th_lb (ls (y / 64)) (y % 64) || decide (y = x))) → post (if th_lb (ls (x / 64)) (x % 64) then 0 else 1) (hd, gs, cn, t, gt, gz, ct, ls', nc)) :
    wpX_markListed post (hd, gs, cn, t, gt, gz, ct, ls, nc) (nI x) := by
  have rem := pk_rem (a := x) (d := 64) (by omega) (by omega) (by omega)
  have div := pk_div (a := x) (d := 64) (by omega) (by omega) (by omega)
  have in3 : vp_in (nI (x / 64)) 30518 := vp_in_nI (by omega) (by omega)
  have ec : (nI (x / 64)).toNatClampNeg = x / 64 := nI_clamp (by omega)
  have rem' : nI x - nI x / 64 * 64 = nI (x % 64) := rem
  refine ⟨by decide, nm_r (e' := nI (x / 64)) div ⟨by decide, ?_⟩⟩
  rw [rem']
  refine nm_e ⟨in3, ?_⟩
  rw [ec]
  have h' := H _ (fun y => th_bits (ls := ls) (x := x) (y := y))
  refine br_c (fun z => ?_) (fun z => ?_)
  · refine ⟨in3, in3, nm_r (e' := vp_updL ls (x / 64) (ls (x / 64) ||| ((1 : Int64) <<< ((nI (x % 64)).toInt64 &&& 63)))) (by rw [ec]) ⟨rfl, ?_⟩⟩
    rw [(th_land (by omega)).mp z] at h'
    exact h'
  · refine ⟨in3, in3, nm_r (e' := vp_updL ls (x / 64) (ls (x / 64) ||| ((1 : Int64) <<< ((nI (x % 64)).toInt64 &&& 63)))) (by rw [ec]) ⟨rfl, ?_⟩⟩
    have zt : th_lb (ls (x / 64)) (x % 64) = true := by
      cases y : th_lb (ls (x / 64)) (x % 64) with
      | true => rfl
      | false => exact absurd ((th_land (by omega)).mpr y) z
    rw [zt] at h'
    exact h'
/-- the sets of three among the first -/
noncomputable def th_n3 (i : Nat) : Nat := th_cnt (fun j => decide (th_sz (th_qi j) = 3)) i
theorem th_n3_all : th_n3 680 = 560 := by
  have c := th_cnt_nb (fun j => decide (th_sz (th_qi j) = 3)) 3375
  rw [th_nb_all] at c
  unfold th_n3
  rw [c, th_cnt_ext (Q := fun q => th_srt q && decide (th_sz q = 3)) 3375 fun q hq => ?_]
  · decide +kernel
  · cases z : th_srt q with
    | false => rfl
    | true => rw [th_qi_nb hq z]
theorem th_n3_s {i : Nat} (h : th_sz (th_qi i) = 3) : th_n3 (i + 1) = th_n3 i + 1 := by
  show th_cnt _ i + (if decide (th_sz (th_qi i) = 3) then 1 else 0) = th_cnt _ i + 1
  rw [decide_eq_true h]; rfl
theorem th_n3_n {i : Nat} (h : ¬ th_sz (th_qi i) = 3) : th_n3 (i + 1) = th_n3 i := by
  show th_cnt _ i + (if decide (th_sz (th_qi i) = 3) then 1 else 0) = th_cnt _ i
  rw [decide_eq_false h]; rfl
theorem th_n3_lt {i : Nat} (hi : i < 680) (h : th_sz (th_qi i) = 3) : th_n3 i < 560 := by
  have a := th_n3_s h
  have b := th_cnt_mono (fun j => decide (th_sz (th_qi j) = 3)) 680 (m := i + 1) hi
  have c := th_n3_all
  unfold th_n3 at *
  omega
/-- up to set i, pair p all complete hands are listed -/
def th_CI (i p : Nat) (cn : Int32) (ct : Nat → Int32) (ls : Nat → Int64) : Prop := ∃ (m : Nat) (l : Nat → Nat), cn = nI m ∧ m ≤ 9 * th_n3 i + p ∧ (∀ i j, i < m → j < m → l i = l j → i = j) ∧ (∀ j, j < m → th_CH (l j)) ∧
  (∀ i' p', (i' < i ∨ (i' = i ∧ p' < p)) → i' < 680 → p' < 9 → th_val (th_qi i') p' = true → ∃ j, j < m ∧ l j = th_code (th_cv (th_qi i') p')) ∧
  (∀ x, x < 1953125 → (th_lb (ls (x / 64)) (x % 64) = true ↔ ∃ j, j < m ∧ l j = x)) ∧ ∀ j, j < m → ∀ k, k < 9 → ct (j * 9 + k) = nI (th_dg (l j) k)
theorem th_CH_lt {x : Nat} (c : th_CH x) : x < 1953125 := by
  obtain ⟨q, p, _, _, v, rfl⟩ := c
  exact th_code_lt (th_val_iff.mp v).2.2
/-- one hand is listed -/
theorem th_x_hand {post : SX → Prop} {hd gs cn : Int32} {t gt gz ct : Nat → Int32} {ls : Nat → Int64} {i p : Nat} (G : th_RG gt gz) (hi : i < 680) (hp : p < 9) (h3 : th_sz (th_qi i) = 3) (I : th_CI i p cn ct ls)
    (H : ∀ (cn' : Int32) (ct' : Nat → Int32) (ls' : Nat → Int64), th_CI i (p + 1) cn' ct' ls' → post (hd, gs, cn', t, gt, gz, ct', ls', 45360)) :
    wpX_listCompleteHand post (hd, gs, cn, t, gt, gz, ct, ls, 45360) (nI i) (nI p) := by
  obtain ⟨m, l, rfl, mb, inj, ch, cov, bits, cells⟩ := I
  have n3 := th_n3_lt hi h3
  have m5 : m < 5040 := by omega
  obtain ⟨q0, q1, q2⟩ := th_qi_s hi
  refine br_t (nI_lt (b := 5040) m5 (by omega)) (nm_r (th_m9 m) ?_)
  refine loop_0 (fun n k (s : Int32 × (Nat → Int32)) => wX_listCompleteHand_25 post (nI i) (nI p) (nI (m * 9)) hd gs (nI m) 45360 n s.1 (nI k) t gt gz s.2 ls)
    (fun k s => s.1 = nI (th_hp (th_cv (th_qi i) p) k) ∧ (∀ j, j < k → th_cv (th_qi i) p j ≤ 4) ∧ (∀ j, j < m * 9 → s.2 j = ct j) ∧ ∀ j, j < k → s.2 (m * 9 + j) = nI (th_cv (th_qi i) p j)) 9 (0, ct) ⟨rfl, fun j hj => absurd hj (by omega), fun j _ => rfl, fun j hj => absurd hj (by omega)⟩ ?_ ?_
  · rintro n ⟨x4, c1⟩ ⟨e1, le4, old, new⟩
    dsimp only at e1 old new ⊢
    subst e1
    have val : th_val (th_qi i) p = true := th_val_iff.mpr ⟨q1, h3, le4⟩
    have hx := th_code_lt le4
    have CHx : th_CH (th_code (th_cv (th_qi i) p)) := ⟨_, p, q0, hp, val, rfl⟩
    obtain ⟨x, ex⟩ : ∃ x, x = th_code (th_cv (th_qi i) p) := ⟨_, rfl⟩
    have ex' : th_hp (th_cv (th_qi i) p) 9 = x := ex.symm
    rw [← ex] at hx CHx
    rw [ex']
    have bx := bits x hx
    refine br_t (nI_le (a := 9) (b := 9) (by omega) (by omega)) (th_x_mark hx fun ls' hls => ?_)
    have cells' : ∀ j, j < m → ∀ k, k < 9 → c1 (j * 9 + k) = nI (th_dg (l j) k) := fun j hj k hk => by rw [old _ (by omega)]; exact cells j hj k hk
    cases z : th_lb (ls (x / 64)) (x % 64) with
    | true =>
      obtain ⟨j0, hj0, ej0⟩ := bx.mp z
      refine br_t rfl (H _ _ _ ⟨m, l, rfl, by omega, inj, ch, fun i' p' hh a b v => ?_, fun y hy => ?_, cells'⟩)
      · by_cases w : i' = i ∧ p' = p
        · rw [w.1, w.2, ← ex]; exact ⟨j0, hj0, ej0⟩
        · exact cov i' p' (by omega) a b v
      · rw [hls y, Bool.or_eq_true, bits y hy, decide_eq_true_eq]
        constructor
        · rintro (w | w)
          · exact w
          · rw [w]; exact ⟨j0, hj0, ej0⟩
        · exact Or.inl
    | false =>
      have fresh : ∀ j, j < m → ¬ l j = x := fun j hj e => by
        rw [bx.mpr ⟨j, hj, e⟩] at z; cases z
      refine br_f (by decide) (nm_r (nI_1 m) (H _ _ _ ⟨m + 1, th_put l m x, rfl, by omega, fun a b ha hb e => ?_, fun j hj => ?_, fun i' p' hh a b v => ?_, fun y hy => ?_, fun j hj k hk => ?_⟩))
      · by_cases wa : a = m
        · by_cases wb : b = m
          · omega
          · subst wa
            rw [th_put_s, th_put_n wb] at e
            exact absurd e.symm (fresh b (by omega))
        · by_cases wb : b = m
          · subst wb
            rw [th_put_s, th_put_n wa] at e
            exact absurd e (fresh a (by omega))
          · rw [th_put_n wa, th_put_n wb] at e
            exact inj a b (by omega) (by omega) e
      · by_cases w : j = m
        · rw [w, th_put_s]; exact CHx
        · rw [th_put_n w]; exact ch j (by omega)
      · by_cases w : i' = i ∧ p' = p
        · rw [w.1, w.2, ← ex]; exact ⟨m, by omega, th_put_s⟩
        · obtain ⟨j, hj, ej⟩ := cov i' p' (by omega) a b v
          exact ⟨j, by omega, by rw [th_put_n (by omega)]; exact ej⟩
      · rw [hls y, Bool.or_eq_true, bits y hy, decide_eq_true_eq]
        constructor
        · rintro (⟨j, hj, ej⟩ | w)
          · exact ⟨j, by omega, by rw [th_put_n (by omega)]; exact ej⟩
          · rw [w]; exact ⟨m, by omega, th_put_s⟩
        · rintro ⟨j, hj, ej⟩
          by_cases w : j = m
          · rw [w, th_put_s] at ej; exact Or.inr ej.symm
          · rw [th_put_n w] at ej; exact Or.inl ⟨j, by omega, ej⟩
      · by_cases w : j = m
        · rw [w, th_put_s, new k hk, ex, th_dg_code le4 k hk]
        · rw [th_put_n w]; exact cells' j (by omega) k hk
  · rintro n k ⟨x4, c1⟩ hk ⟨e1, le4, old, new⟩ ih
    dsimp only at e1 old new ih ⊢
    subst e1
    have ec : nI i * 9 + nI k = nI (i * 9 + k) := by rw [th_m9, nI_add]
    have e0 : (nI (i * 9 + k)).toNatClampNeg = i * 9 + k := nI_clamp (by omega)
    have em : nI (m * 9) + nI k = nI (m * 9 + k) := nI_add _ _
    have e2 : (nI (m * 9 + k)).toNatClampNeg = m * 9 + k := nI_clamp (by omega)
    have v9 := th_vec9 (th_qi i) k
    have c11 : th_cv (th_qi i) p k ≤ 11 := by unfold th_cv; split <;> omega
    have go : wX_listCompleteHand_55 post (wX_listCompleteHand_25 post (nI i) (nI p) (nI (m * 9)) hd gs (nI m) 45360 n) (nI i) (nI p) (nI (m * 9)) (nI (th_hp (th_cv (th_qi i) p) k)) (nI k) (nI (th_cv (th_qi i) p k)) hd gs (nI m) t gt gz c1 ls 45360 := by
      refine pk_le (th_cv (th_qi i) p k) 4 (fun z => ?_) (fun z => ?_)
      · rw [em]
        refine ⟨vp_in_nI (by omega) (by omega), nm_r (e' := upd c1 (m * 9 + k) (nI (th_cv (th_qi i) p k))) (by rw [e2]) (nm_r (e' := nI (th_hp (th_cv (th_qi i) p) (k + 1))) (by rw [th_m5, nI_add]; rfl) (nm_r (nI_1 k) (ih (nI (th_hp (th_cv (th_qi i) p) (k + 1)), upd c1 (m * 9 + k) (nI (th_cv (th_qi i) p k))) ⟨rfl, fun j hj => ?_, fun j hj => ?_, fun j hj => ?_⟩)))⟩
        · by_cases w : j = k
          · rw [w]; exact z
          · exact le4 j (by omega)
        · dsimp only
          rw [pk_un (by omega)]; exact old j hj
        · dsimp only
          by_cases w : j = k
          · rw [w, pk_us]
          · rw [pk_un (by omega)]; exact new j (by omega)
      · refine H _ _ _ ⟨m, l, rfl, by omega, inj, ch, fun i' p' hh a b v => ?_, bits, fun j hj k' hk' => by rw [old _ (by omega)]; exact cells j hj k' hk'⟩
        by_cases w : i' = i ∧ p' = p
        · rw [w.1, w.2] at v
          have := (th_val_iff.mp v).2.2 k hk
          omega
        · exact cov i' p' (by omega) a b v
    refine br_f (nI_ge (b := 9) hk (by omega)) ?_
    rw [ec]
    refine ⟨vp_in_nI (by omega) (by omega), nm_r (e' := nI (th_vec (th_qi i) k)) (by rw [e0, (G i hi).2 k hk]) (pk_eq k p (fun z => ?_) (fun z => ?_))⟩
    · refine nm_r (e' := nI (th_cv (th_qi i) p k)) (by rw [th_2]; unfold th_cv; rw [if_pos z]) go
    · have e : th_vec (th_qi i) k = th_cv (th_qi i) p k := by unfold th_cv; rw [if_neg z]; rfl
      rw [e]
      exact go
theorem th_CI_n {i : Nat} {cn : Int32} {ct : Nat → Int32} {ls : Nat → Int64} (h : ¬ th_sz (th_qi i) = 3) (I : th_CI i 0 cn ct ls) : th_CI (i + 1) 0 cn ct ls := by
  obtain ⟨m, l, a, b, c, d, e, f, g⟩ := I
  refine ⟨m, l, a, by rw [th_n3_n h]; exact b, c, d, fun i' p' hh x y v => ?_, f, g⟩
  by_cases w : i' = i
  · rw [w] at v; exact absurd (th_val_iff.mp v).2.1 h
  · exact e i' p' (by omega) x y v
theorem th_CI_s {i : Nat} {cn : Int32} {ct : Nat → Int32} {ls : Nat → Int64} (h : th_sz (th_qi i) = 3) (I : th_CI i 9 cn ct ls) : th_CI (i + 1) 0 cn ct ls := by
  obtain ⟨m, l, a, b, c, d, e, f, g⟩ := I
  refine ⟨m, l, a, by rw [th_n3_s h]; omega, c, d, fun i' p' hh x y v => ?_, f, g⟩
  exact e i' p' (by omega) x y v
theorem th_x_hands {post : SX → Prop} {hd gs : Int32} {t gt gz : Nat → Int32} (G : th_RG gt gz)
    (H : ∀ (cn' : Int32) (ct' : Nat → Int32) (ls' : Nat → Int64) (m : Nat) (l : Nat → Nat), th_RC cn' ct' 45360 m l → post (hd, gs, cn', t, gt, gz, ct', ls', 45360)) :
    wpX_listCompleteHands post (hd, gs, 0, t, gt, gz, (fun _ => 0), (fun _ => 0), 45360) := by
  refine loop_0 (fun n i (s : Int32 × (Nat → Int32) × (Nat → Int64)) => wX_listCompleteHands_2 post n (nI i) hd gs s.1 t gt gz s.2.1 s.2.2 45360) (fun i s => th_CI i 0 s.1 s.2.1 s.2.2) 680 (0, (fun _ => 0), (fun _ => 0)) ?_ ?_ ?_
  · refine ⟨0, fun _ => 0, rfl, by omega, fun a b ha => absurd ha (by omega), fun j hj => absurd hj (by omega), fun i' p' hh => absurd hh (by omega), fun x hx => ?_, fun j hj => absurd hj (by omega)⟩
    constructor
    · intro z
      have : th_lb 0 (x % 64) = false := BitVec.getLsbD_zero
      dsimp only at z
      rw [this] at z; cases z
    · rintro ⟨j, hj, _⟩; omega
  · rintro n ⟨cn, ct, ls⟩ I
    dsimp only at I ⊢
    obtain ⟨m, l, a, b, c, d, e, f, g⟩ := I
    refine br_t (nI_le (a := 680) (b := 680) (by omega) (by omega)) (H cn ct ls m l ⟨rfl, by rw [th_n3_all] at b; omega, a, c, fun x => ⟨fun cx => ?_, fun ⟨j, hj, ej⟩ => by rw [← ej]; exact d j hj⟩, g⟩)
    obtain ⟨q, p, hq, hp, v, rfl⟩ := cx
    have sr := (th_val_iff.mp v).1
    have lt := th_nb_lt hq sr
    have := e (th_nb q) p (Or.inl lt) lt hp
    rw [th_qi_nb hq sr] at this
    exact this v
  · rintro n i ⟨cn, ct, ls⟩ hi I ih
    dsimp only at I ih ⊢
    have ei : (nI i).toNatClampNeg = i := nI_clamp (by omega)
    have z3 := th_sz3 (th_qi i)
    refine br_f (nI_ge (b := 680) hi (by omega)) ⟨vp_in_nI hi (by omega), ?_⟩
    rw [ei, (G i hi).1]
    refine pk_eq (th_sz (th_qi i)) 3 (fun h3 => ?_) (fun h3 => nm_r (nI_1 i) (ih (cn, ct, ls) (th_CI_n h3 I)))
    refine loop_0 (fun n' p (s : Int32 × (Nat → Int32) × (Nat → Int64)) => wX_listCompleteHands_21 post (wX_listCompleteHands_2 post n) (nI i) n' (nI p) hd gs s.1 t gt gz s.2.1 s.2.2 45360) (fun p s => th_CI i p s.1 s.2.1 s.2.2) 9 (cn, ct, ls) I ?_ ?_
    · rintro n' ⟨cn1, ct1, ls1⟩ I1
      exact br_t (nI_le (a := 9) (b := 9) (by omega) (by omega)) (nm_r (nI_1 i) (ih (cn1, ct1, ls1) (th_CI_s h3 I1)))
    · rintro n' p ⟨cn1, ct1, ls1⟩ hp I1 ih1
      refine br_f (nI_ge (b := 9) hp (by omega)) (th_x_hand G hi hp h3 I1 fun cn2 ct2 ls2 I2 => ?_)
      exact nm_r (nI_1 p) (ih1 (cn2, ct2, ls2) I2)
theorem th_x_init {post : SX → Prop}
    (H : ∀ (gs cn : Int32) (gt gz ct : Nat → Int32) (ls : Nat → Int64) (m : Nat) (l : Nat → Nat), th_RG gt gz → th_RC cn ct 45360 m l → post (0, gs, cn, (fun _ => 0), gt, gz, ct, ls, 45360)) :
    wpX_init post := by
  refine ⟨by decide, nm_r (e' := 45360) (by decide) ⟨by omega, ?_⟩⟩
  refine th_x_listSets fun gs gt gz G => ?_
  exact th_x_hands G fun cn ct ls m l C => H gs cn gt gz ct ls m l G C
