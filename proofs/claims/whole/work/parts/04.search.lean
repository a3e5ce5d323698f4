-- level l, prefix g0 g1 (taken), e the next candidate at this level; all sorted q < T are done.
def th_n0 (l g0 e : Nat) : Nat := if l = 0 then e else g0
def th_n1 (l g1 e : Nat) : Nat := if l = 0 then g1 else e
/-- the group taken last -/
def th_gl (l g0 g1 : Nat) : Nat := if l = 1 then g0 else g1
def th_T (l g0 g1 e : Nat) : Nat := if l = 0 then e * 225 else if l = 1 then g0 * 225 + e * 15 else g0 * 225 + g1 * 15 + e
def th_ch (base : Nat → Nat) (l g0 g1 k : Nat) : Nat := base k + (if 1 ≤ l then th_G g0 k else 0) + (if 2 ≤ l then th_G g1 k else 0)
def th_wf (l g0 g1 e : Nat) : Prop := l ≤ 2 ∧ e ≤ 14 ∧ (1 ≤ l → g0 ≤ 13 ∧ g0 ≤ e) ∧ (2 ≤ l → g0 ≤ g1 ∧ g1 ≤ 13 ∧ g1 ≤ e)
theorem th_T_lt {l g0 g1 e : Nat} (w : th_wf l g0 g1 e) : th_T l g0 g1 e < 3375 := by
  obtain ⟨w1, w2, w3, w4⟩ := w
  unfold th_T
  split
  · omega
  · split
    · have := w3 (by omega); omega
    · have := w3 (by omega); have := w4 (by omega); omega
theorem th_step_le {l g0 g1 e : Nat} : th_T l g0 g1 e ≤ th_T l g0 g1 (e + 1) := by
  unfold th_T
  split
  · omega
  · split <;> omega
/-- between e and e + 1: all have the prefix and e -/
theorem th_gap {base : Nat → Nat} {l g0 g1 e q : Nat} (w : th_wf l g0 g1 e) (he : e ≤ 13) (a : th_T l g0 g1 e ≤ q) (b : q < th_T l g0 g1 (e + 1)) (k : Nat) :
    th_ch base l g0 g1 k + th_G e k ≤ base k + th_vec q k := by
  obtain ⟨w1, w2, w3, w4⟩ := w
  unfold th_T at a b
  unfold th_ch th_vec th_a th_b th_c
  rcases (show l = 0 ∨ l = 1 ∨ l = 2 by omega) with rfl | rfl | rfl
  · simp at a b ⊢
    have : q / 225 = e := by omega
    rw [this]; omega
  · simp at a b ⊢
    have := w3 (by omega)
    have e1 : q / 225 = g0 := by omega
    have e2 : q / 15 % 15 = e := by omega
    rw [e1, e2]; omega
  · simp at a b ⊢
    have := w3 (by omega)
    have := w4 (by omega)
    have e1 : q / 225 = g0 := by omega
    have e2 : q / 15 % 15 = g1 := by omega
    have e3 : q % 15 = e := by omega
    rw [e1, e2, e3]; omega
/-- going deeper passes over none -/
theorem th_deep {l g0 g1 e q : Nat} (w : th_wf l g0 g1 e) (he : e ≤ 13) (hl : l < 2) (a : th_T l g0 g1 e ≤ q)
    (b : q < th_T (l + 1) (th_n0 l g0 e) (th_n1 l g1 e) e) : th_srt q = false := by
  obtain ⟨w1, w2, w3, w4⟩ := w
  rw [th_srt_no]
  unfold th_T th_n0 th_n1 at *
  rcases (show l = 0 ∨ l = 1 by omega) with rfl | rfl
  · simp at a b; omega
  · have := w3 (by omega)
    simp at a b; omega
/-- going up passes over the prefix alone -/
theorem th_up {l g0 g1 q : Nat} (w : th_wf l g0 g1 14) (hl : 1 ≤ l) (a : th_T l g0 g1 14 ≤ q)
    (b : q < th_T (l - 1) g0 g1 (th_gl l g0 g1 + 1)) (s : th_srt q = true) : th_sz q = l := by
  obtain ⟨w1, w2, w3, w4⟩ := w
  rw [th_srt_iff] at s
  unfold th_T th_gl at *
  unfold th_sz th_one th_a th_b th_c
  have := w3 hl
  rcases (show l = 1 ∨ l = 2 by omega) with rfl | rfl
  · simp at a b
    have e1 : q / 225 = g0 := by omega
    have e2 : q / 15 % 15 = 14 := by omega
    have e3 : q % 15 = 14 := by omega
    rw [e1, e2, e3]; simp; omega
  · have := w4 (by omega)
    simp at a b
    have e1 : q / 225 = g0 := by omega
    have e2 : q / 15 % 15 = g1 := by omega
    have e3 : q % 15 = 14 := by omega
    rw [e1, e2, e3]; simp [show g0 < 14 by omega, show g1 < 14 by omega]
/-- the end passes over the empty set alone -/
theorem th_end {q : Nat} (a : th_T 0 0 0 14 ≤ q) (b : q < 3375) (s : th_srt q = true) : th_sz q = 0 := by
  rw [th_srt_iff] at s
  unfold th_T at a
  simp at a
  unfold th_sz th_one th_a th_b th_c
  have e1 : q / 225 = 14 := by omega
  have e2 : q / 15 % 15 = 14 := by omega
  have e3 : q % 15 = 14 := by omega
  rw [e1, e2, e3]; simp

/-- the set that is the prefix and e alone -/
def th_wq (l g0 g1 e : Nat) : Nat := if l = 0 then e * 225 + 224 else if l = 1 then g0 * 225 + e * 15 + 14 else g0 * 225 + g1 * 15 + e
theorem th_wq_s {l g0 g1 e : Nat} (w : th_wf l g0 g1 e) (he : e ≤ 13) : th_srt (th_wq l g0 g1 e) = true ∧ th_sz (th_wq l g0 g1 e) = l + 1 ∧
    th_T l g0 g1 e ≤ th_wq l g0 g1 e ∧ th_wq l g0 g1 e < th_T l g0 g1 (e + 1) ∧ th_wq l g0 g1 e < 3375 ∧
    ∀ (base : Nat → Nat) (k : Nat), base k + th_vec (th_wq l g0 g1 e) k = th_ch base l g0 g1 k + th_G e k := by
  obtain ⟨w1, w2, w3, w4⟩ := w
  rw [th_srt_iff]
  unfold th_T th_wq th_ch th_sz th_vec th_one th_a th_b th_c
  have z : ∀ k, th_G 14 k = 0 := fun k => by simp [th_G]
  rcases (show l = 0 ∨ l = 1 ∨ l = 2 by omega) with rfl | rfl | rfl
  · simp
    have e1 : (e * 225 + 224) / 225 = e := by omega
    have e2 : (e * 225 + 224) / 15 % 15 = 14 := by omega
    have e3 : (e * 225 + 224) % 15 = 14 := by omega
    rw [e1, e2, e3]
    simp [z, show e < 14 by omega]
    omega
  · simp
    have := w3 (by omega)
    have e1 : (g0 * 225 + e * 15 + 14) / 225 = g0 := by omega
    have e2 : (g0 * 225 + e * 15 + 14) / 15 % 15 = e := by omega
    have e3 : (g0 * 225 + e * 15 + 14) % 15 = 14 := by omega
    rw [e1, e2, e3]
    simp [z, show e < 14 by omega, show g0 < 14 by omega]
    refine ⟨by omega, by omega, by omega, fun _ _ => by omega⟩
  · simp
    have := w3 (by omega)
    have := w4 (by omega)
    have e1 : (g0 * 225 + g1 * 15 + e) / 225 = g0 := by omega
    have e2 : (g0 * 225 + g1 * 15 + e) / 15 % 15 = g1 := by omega
    have e3 : (g0 * 225 + g1 * 15 + e) % 15 = e := by omega
    rw [e1, e2, e3]
    simp [show e < 14 by omega, show g0 < 14 by omega, show g1 < 14 by omega]
    refine ⟨by omega, by omega, fun _ _ => by omega⟩
theorem th_wq_u {l g0 g1 e q : Nat} (w : th_wf l g0 g1 e) (he : e ≤ 13) (a : th_T l g0 g1 e ≤ q) (b : q < th_T l g0 g1 (e + 1)) (s : th_srt q = true)
    (z : th_sz q = l + 1) : q = th_wq l g0 g1 e := by
  obtain ⟨w1, w2, w3, w4⟩ := w
  rw [th_srt_iff] at s
  unfold th_T at a b
  unfold th_sz th_one th_a th_b th_c at z
  unfold th_wq
  rcases (show l = 0 ∨ l = 1 ∨ l = 2 by omega) with rfl | rfl | rfl
  · simp at a b ⊢
    have e1 : q / 225 = e := by omega
    rw [e1] at z s
    rw [if_pos (show e < 14 by omega)] at z
    by_cases h : q / 15 % 15 < 14
    · rw [if_pos h] at z; omega
    · omega
  · have := w3 (by omega)
    simp at a b ⊢
    have e1 : q / 225 = g0 := by omega
    have e2 : q / 15 % 15 = e := by omega
    rw [e1, e2] at z s
    rw [if_pos (show e < 14 by omega), if_pos (show g0 < 14 by omega)] at z
    by_cases h : q % 15 < 14
    · rw [if_pos h] at z; omega
    · omega
  · simp at a b ⊢
    omega
/-- in the gap at the last level there is the leaf alone -/
theorem th_leaf {g0 g1 e q : Nat} (a : th_T 2 g0 g1 e ≤ q) (b : q < th_T 2 g0 g1 (e + 1)) : q = th_wq 2 g0 g1 e := by
  unfold th_T at a b
  unfold th_wq
  simp at a b ⊢
  omega
theorem th_ch_deep {base : Nat → Nat} {l g0 g1 e : Nat} (hl : l < 2) (k : Nat) : th_ch base (l + 1) (th_n0 l g0 e) (th_n1 l g1 e) k = th_ch base l g0 g1 k + th_G e k := by
  unfold th_ch th_n0 th_n1
  rcases (show l = 0 ∨ l = 1 by omega) with rfl | rfl
  · simp
  · simp
theorem th_wf_deep {l g0 g1 e : Nat} (w : th_wf l g0 g1 e) (he : e ≤ 13) (hl : l < 2) : th_wf (l + 1) (th_n0 l g0 e) (th_n1 l g1 e) e := by
  obtain ⟨w1, w2, w3, w4⟩ := w
  unfold th_n0 th_n1 th_wf
  rcases (show l = 0 ∨ l = 1 by omega) with rfl | rfl
  · simp <;> omega
  · have := w3 (by omega)
    simp; omega
theorem th_wf_next {l g0 g1 e : Nat} (w : th_wf l g0 g1 e) (he : e ≤ 13) : th_wf l g0 g1 (e + 1) := by
  obtain ⟨w1, w2, w3, w4⟩ := w
  exact ⟨w1, by omega, fun h => by have := w3 h; omega, fun h => by have := w4 h; omega⟩
theorem th_wf_up {l g0 g1 e : Nat} (w : th_wf l g0 g1 e) (hl : 1 ≤ l) : th_wf (l - 1) g0 g1 (th_gl l g0 g1 + 1) ∧ th_gl l g0 g1 ≤ 13 := by
  obtain ⟨w1, w2, w3, w4⟩ := w
  have := w3 hl
  unfold th_gl th_wf
  rcases (show l = 1 ∨ l = 2 by omega) with rfl | rfl
  · simp <;> omega
  · have := w4 (by omega)
    simp; omega
theorem th_ch_up {base : Nat → Nat} {l g0 g1 : Nat} (hl : 1 ≤ l) (h2 : l ≤ 2) (k : Nat) : th_ch base l g0 g1 k = th_ch base (l - 1) g0 g1 k + th_G (th_gl l g0 g1) k := by
  unfold th_ch th_gl
  rcases (show l = 1 ∨ l = 2 by omega) with rfl | rfl
  · simp
  · simp
theorem th_T_deep {l g0 g1 e : Nat} (hl : l < 2) : th_T l g0 g1 e ≤ th_T (l + 1) (th_n0 l g0 e) (th_n1 l g1 e) e := by
  unfold th_T th_n0 th_n1
  rcases (show l = 0 ∨ l = 1 by omega) with rfl | rfl
  · simp <;> omega
  · simp
theorem th_T_next {l g0 g1 e : Nat} : th_T l g0 g1 e < th_T l g0 g1 (e + 1) := by
  unfold th_T
  split
  · omega
  · split <;> omega
theorem th_T_up {l g0 g1 : Nat} (w : th_wf l g0 g1 14) (hl : 1 ≤ l) : th_T l g0 g1 14 < th_T (l - 1) g0 g1 (th_gl l g0 g1 + 1) := by
  obtain ⟨w1, w2, w3, w4⟩ := w
  have := w3 hl
  unfold th_T th_gl
  rcases (show l = 1 ∨ l = 2 by omega) with rfl | rfl
  · simp <;> omega
  · have := w4 (by omega)
    simp; omega
/-- the measure of a search -/
def th_mu (l g0 g1 e : Nat) : Nat := 4 * (3375 - th_T l g0 g1 e) + (3 - l)
theorem th_mu_deep {l g0 g1 e : Nat} (hl : l < 2) : th_mu (l + 1) (th_n0 l g0 e) (th_n1 l g1 e) e < th_mu l g0 g1 e := by
  have := th_T_deep (l := l) (g0 := g0) (g1 := g1) (e := e) hl
  unfold th_mu
  omega
theorem th_mu_next {l g0 g1 e : Nat} (w : th_wf l g0 g1 e) : th_mu l g0 g1 (e + 1) < th_mu l g0 g1 e := by
  have := th_T_next (l := l) (g0 := g0) (g1 := g1) (e := e)
  have := th_T_lt w
  unfold th_mu
  omega
theorem th_mu_up {l g0 g1 : Nat} (w : th_wf l g0 g1 14) (hl : 1 ≤ l) : th_mu (l - 1) g0 g1 (th_gl l g0 g1 + 1) < th_mu l g0 g1 14 := by
  have := th_T_up w hl
  have := th_T_lt w
  have := w.1
  unfold th_mu
  omega
theorem th_ch_s9 {base : Nat → Nat} {l g0 g1 e : Nat} (w : th_wf l g0 g1 e) : th_s9 (th_ch base l g0 g1) = th_s9 base + 3 * l := by
  obtain ⟨w1, w2, w3, w4⟩ := w
  have e0 : 1 ≤ l → th_s9 (th_G g0) = 3 := fun h => by
    have := w3 h
    rw [th_G_s9 g0 (by omega), th_one, if_pos (by omega)]
  have e1 : 2 ≤ l → th_s9 (th_G g1) = 3 := fun h => by
    have := w4 h
    rw [th_G_s9 g1 (by omega), th_one, if_pos (by omega)]
  rcases (show l = 0 ∨ l = 1 ∨ l = 2 by omega) with rfl | rfl | rfl
  · exact th_s9_ext fun k _ => by simp [th_ch]
  · have : th_s9 (th_ch base 1 g0 g1) = th_s9 (fun k => base k + th_G g0 k) := th_s9_ext fun k _ => by simp [th_ch]
    rw [this, th_s9_add, e0 (by omega)]
  · have : th_s9 (th_ch base 2 g0 g1) = th_s9 (fun k => (fun k => base k + th_G g0 k) k + th_G g1 k) := th_s9_ext fun k _ => by simp [th_ch]
    rw [this, th_s9_add, th_s9_add, e0 (by omega), e1 (by omega)]
