/-! small pure functions that both sides reckon -/
theorem tp_fm_skip {f : Nat → List (List Nat)} (n : Nat) : ∀ i s, (∀ c, s ≤ c → c < s + i → f c = []) → tp_fm f (i + n) s = tp_fm f n (s + i) := by
  intro i
  induction i with
  | zero => intro s _; rw [Nat.zero_add, Nat.add_zero]
  | succ i ih =>
    intro s h
    have e : i + 1 + n = (i + n) + 1 := by omega
    rw [e, tp_fm, h s (Nat.le_refl _) (by omega), ih (s + 1) (fun c h1 h2 => h c (by omega) (by omega)), List.nil_append]
    have e2 : s + 1 + i = s + (i + 1) := by omega
    rw [e2]
theorem tp_F_T {D : tp_D} {u : Nat → Bool} {T : Nat} {w : Int32} (hu : ¬ u T = true) : ∀ k l, tp_F D u T w k l = [] := by
  intro k
  induction k with
  | zero =>
    intro l
    rw [tp_F, if_neg (fun e => hu (tp_lk_iff.mp (tp_en_iff.mp e).1).1)]
  | succ k ih =>
    intro l
    rw [tp_F]
    apply tp_fm_nil
    intro c _ _
    by_cases e : tp_go D u w l c = true ∧ c ≠ T
    · rw [if_pos e, ih]
    · rw [if_neg e]
theorem tp_P_bit (D : tp_D) (w : Int32) (b : Nat) : ∀ l, bt (tp_P D w l) b = true → bt w b = true := by
  intro l
  induction l with
  | nil => intro h; exact h
  | cons c l ih =>
    intro h
    rw [tp_P, b_and, Bool.and_eq_true] at h
    exact ih h.1
/-- the set of those below n with f -/
def tp_mk (f : Nat → Bool) : Nat → Int32
  | 0 => 0
  | n + 1 => if f n = true then tp_mk f n ||| ((1 : Int32) <<< (nI n &&& 31)) else tp_mk f n
theorem tp_mk_bit (f : Nat → Bool) {i : Nat} (hi : i < 32) : ∀ n, n ≤ 32 → bt (tp_mk f n) i = (decide (i < n) && f i) := by
  intro n
  induction n with
  | zero => intro _; rw [tp_mk, b_0, decide_eq_false (Nat.not_lt_zero i), Bool.false_and]
  | succ n ih =>
    intro hn
    rw [tp_mk]
    by_cases h : f n = true
    · rw [if_pos h, tb_set _ (by omega) hi, ih (by omega)]
      by_cases e : i = n
      · subst e
        rw [h, decide_eq_true (rfl : i = i), decide_eq_true (Nat.lt_succ_self i)]
        simp
      · have e2 : decide (i < n + 1) = decide (i < n) := by
          apply decide_eq_decide.mpr
          omega
        rw [e2, decide_eq_false e, Bool.or_false]
    · rw [if_neg h, ih (by omega)]
      by_cases e : i = n
      · subst e
        have h2 : f i = false := by
          cases hf : f i with
          | true => exact absurd hf h
          | false => rfl
        rw [h2, Bool.and_false, Bool.and_false]
      · have e2 : decide (i < n + 1) = decide (i < n) := by
          apply decide_eq_decide.mpr
          omega
        rw [e2]
theorem tp_mk_congr {f g : Nat → Bool} : ∀ n, (∀ i, i < n → f i = g i) → tp_mk f n = tp_mk g n := by
  intro n
  induction n with
  | zero => intro _; rfl
  | succ n ih =>
    intro h
    rw [tp_mk, tp_mk, h n (Nat.lt_succ_self n), ih (fun i hi => h i (by omega))]
/-- how many below n have f -/
def tp_cn (f : Nat → Bool) : Nat → Nat
  | 0 => 0
  | n + 1 => if f n = true then tp_cn f n + 1 else tp_cn f n
theorem tp_cn_le (f : Nat → Bool) : ∀ n, tp_cn f n ≤ n := by
  intro n
  induction n with
  | zero => exact Nat.le_refl _
  | succ n ih => rw [tp_cn]; split <;> omega
/-- the set of the x c, c below n with f -/
def tp_ks (f : Nat → Bool) (x : Nat → Int32) : Nat → Int32
  | 0 => 0
  | n + 1 => if f n = true then tp_ks f x n ||| ((1 : Int32) <<< (x n &&& 31)) else tp_ks f x n
/-- the least from s on (n of them) with f, else -2 -/
def tp_fs (f : Nat → Bool) : Nat → Nat → Int32
  | 0, _ => -2
  | n + 1, s => if f s = true then nI s else tp_fs f n (s + 1)
/-- from s on, n of them: the last ahead of the first with f -/
def tp_un (f : Nat → Bool) : Nat → Nat → Int32 → Int32
  | 0, _, r => r
  | n + 1, s, r => if f s = true then r else tp_un f n (s + 1) (nI s)
/-- the moves of a search -/
def tp_M : Nat → Nat
  | 0 => 1
  | k + 1 => 12 * (tp_M k + 1) + 1
theorem tp_M_5 : ∀ k, k ≤ 5 → tp_M k ≤ 542905 := by decide +kernel
