/-! the relation and what is owed -/
/-- one hand h on both sides; the class's two lists as the constructor left them -/
def i_Rel (k : Nat) (u : SX) (v : SY) : Prop := ∃ (h : Nat → Nat) (hd gs cn : Int32) (t gt gz ct : Nat → Int32) (ls : Nat → Int64) (m : Nat) (l : Nat → Nat) (lk lf lv : Int32) (ch gr rs : Nat → Int32),
  u = (hd, gs, cn, t, gt, gz, ct, ls, 45360) ∧ v = (hd, lk, lf, lv, t, ch, gr, rs) ∧ (∀ k, k < 9 → t k = nI (h k)) ∧ (∀ k, k < 9 → h k ≤ 4) ∧ hd = nI (th_s9 h) ∧ th_s9 h ≤ 11 ∧ th_RG gt gz ∧ th_RC cn ct 45360 m l
theorem i_up {k : Nat} {u : SX} {v : SY} (h : i_Rel k u v) : i_Rel (k + 2) u v := h
theorem i_vc0 : wpX_init (fun u => wpY_init (fun v => i_Rel 0 u v)) :=
  th_x_init fun gs cn gt gz ct ls m l G C => ⟨fun _ => 0, _, gs, cn, _, gt, gz, ct, ls, m, l, _, _, _, _, _, _, rfl, rfl, fun _ _ => rfl, fun _ _ => by omega, rfl, by decide, G, C⟩
