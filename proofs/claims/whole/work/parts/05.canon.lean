/-- can the tiles w be divided into groups (greedily, kind by kind; r1, r2: runs begun one, two kinds before) -/
def th_dv (w : Nat → Nat) : Nat → Nat → Nat → Nat → Bool
  | 0, _, _, _ => true
  | n + 1, k, r1, r2 =>
    if w k < r1 + r2 then false
    else if 4 < k ∧ 0 < (w k - (r1 + r2)) % 3 then false
    else th_dv w n (k + 1) ((w k - (r1 + r2)) % 3) r1
/-- the tiles without a pair -/
def th_sub (w : Nat → Nat) (r : Nat) : Nat → Nat := fun k => if k = r then w k - 2 else w k
def th_dvp (w : Nat → Nat) (r : Nat) : Bool := decide (2 ≤ w r) && th_dv (th_sub w r) 9 0 0 0
/-- the set of groups that the greedy division finds: triplets t, runs r, m = 15 to the number of runs -/
def th_cq (w : Nat → Nat) : Nat → Nat → Nat → Nat → Nat → Nat → Nat → Nat
  | 0, _, _, _, t, r, m => t * m + r
  | n + 1, k, r1, r2, t, r, m =>
    th_cq w n (k + 1) ((w k - (r1 + r2)) % 3) r1 (if (w k - (r1 + r2)) / 3 = 0 then t else t * 15 + k)
      (if (w k - (r1 + r2)) % 3 = 0 then r else if (w k - (r1 + r2)) % 3 = 1 then r * 15 + (k + 9) else (r * 15 + (k + 9)) * 15 + (k + 9))
      (if (w k - (r1 + r2)) % 3 = 0 then m else if (w k - (r1 + r2)) % 3 = 1 then m * 15 else m * 225)
def th_trip (q : Nat) : Bool := decide (8 < th_a q) && decide (th_a q = th_b q) && decide (th_a q = th_c q)
/-- the least pair -/
def th_fp (w : Nat → Nat) : Nat → Nat → Nat
  | 0, p => p
  | n + 1, p => if th_dvp w p then p else th_fp w n (p + 1)
def th_ckz (q p x p' q' : Nat) : Bool := decide (q' < 3375) && decide (p' < 9) && th_val q' p' && !th_trip q' && decide (th_code (th_cv q' p') = x) && (th_trip q || !decide (p' = p) || decide (q' = q))
def th_cky (q p x p' : Nat) : Bool := th_ckz q p x p' (th_cq (th_sub (th_dg x) p') 9 0 0 0 0 0 1)
def th_ckx (q p x : Nat) : Bool := th_dvp (th_dg x) p && th_cky q p x (th_fp (th_dg x) 9 0)
def th_ck (q p : Nat) : Bool := !th_val q p || th_ckx q p (th_code (th_cv q p))
def th_ckr (a b : Nat) : Bool := (List.range b).all fun i => (List.range 9).all (th_ck (a + i))
theorem th_ck_1 : th_ckr 0 225 = true := by decide +kernel
theorem th_ck_2 : th_ckr 225 450 = true := by decide +kernel
theorem th_ck_3 : th_ckr 675 900 = true := by decide +kernel
theorem th_ck_4 : th_ckr 1575 1800 = true := by decide +kernel
