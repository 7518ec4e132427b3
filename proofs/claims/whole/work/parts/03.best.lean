/-! the best of a list of paths: the first of the shortest -/
def tp_best : List (List Nat) → Option (List Nat)
  | [] => none
  | p :: ev => match tp_best ev with
    | none => some p
    | some q => if q.length < p.length then some q else some p
def tp_bs (b : Option (List Nat)) (p : List Nat) : Option (List Nat) := match b with
  | none => some p
  | some q => if p.length < q.length then some p else some q
def tp_ln (b : Option (List Nat)) : Nat := match b with
  | none => 0
  | some q => q.length
theorem tp_best_snoc (p : List Nat) : ∀ ev, tp_best (ev ++ [p]) = tp_bs (tp_best ev) p := by
  intro ev
  induction ev with
  | nil => rfl
  | cons a ev ih =>
    rw [List.cons_append, tp_best, tp_best, ih]
    cases h : tp_best ev with
    | none => rfl
    | some q =>
      show (match tp_bs (some q) p with | none => some a | some q => if q.length < a.length then some q else some a) = tp_bs (if q.length < a.length then some q else some a) p
      by_cases h1 : p.length < q.length
      · have e1 : tp_bs (some q) p = some p := if_pos h1
        rw [e1]
        show (if p.length < a.length then some p else some a) = _
        by_cases h2 : q.length < a.length
        · rw [if_pos h2, if_pos (by omega), e1]
        · rw [if_neg h2]
          rfl
      · have e1 : tp_bs (some q) p = some q := if_neg h1
        rw [e1]
        show (if q.length < a.length then some q else some a) = _
        by_cases h2 : q.length < a.length
        · rw [if_pos h2, e1]
        · rw [if_neg h2]
          exact (if_neg (by omega)).symm
theorem tp_best_mem : ∀ ev q, tp_best ev = some q → q ∈ ev := by
  intro ev
  induction ev with
  | nil => intro q h; cases h
  | cons a ev ih =>
    intro q h
    rw [tp_best] at h
    cases hb : tp_best ev with
    | none =>
      rw [hb] at h
      have h2 : a = q := Option.some.inj h
      rw [h2]
      exact List.mem_cons_self
    | some r =>
      rw [hb] at h
      have h2 : (if r.length < a.length then some r else some a) = some q := h
      by_cases hl : r.length < a.length
      · rw [if_pos hl] at h2
        rw [← Option.some.inj h2]
        exact List.mem_cons_of_mem _ (ih r hb)
      · rw [if_neg hl] at h2
        rw [← Option.some.inj h2]
        exact List.mem_cons_self
theorem tp_best_none : ∀ ev, tp_best ev = none → ev = [] := by
  intro ev h
  cases ev with
  | nil => rfl
  | cons a ev =>
    rw [tp_best] at h
    cases hb : tp_best ev with
    | none => rw [hb] at h; cases h
    | some r =>
      rw [hb] at h
      have h2 : (if r.length < a.length then some r else some a) = none := h
      split at h2 <;> cases h2
def tp_l (n : Nat) (p : List Nat) : Bool := decide (p.length = n)
theorem tp_best_hit : ∀ ev L q t, ev.filter (tp_l L) = q :: t → (∀ j, j < L → ev.filter (tp_l j) = []) → tp_best ev = some q := by
  intro ev
  induction ev with
  | nil => intro L q t h; cases h
  | cons a ev ih =>
    intro L q t h hj
    have ha : L ≤ a.length := by
      apply Nat.le_of_not_lt
      intro hl
      have h2 := hj a.length hl
      rw [List.filter_cons_of_pos (by unfold tp_l; exact decide_eq_true rfl)] at h2
      cases h2
    have hj2 : ∀ j, j < L → ev.filter (tp_l j) = [] := by
      intro j hl
      have h2 := hj j hl
      rw [List.filter_cons_of_neg (by unfold tp_l; intro z; have := of_decide_eq_true z; omega)] at h2
      exact h2
    rw [tp_best]
    by_cases e : a.length = L
    · rw [List.filter_cons_of_pos (by unfold tp_l; exact decide_eq_true e)] at h
      have hq : a = q := (List.cons.inj h).1
      cases hb : tp_best ev with
      | none => show some a = some q; rw [hq]
      | some r =>
        have hr := tp_best_mem ev r hb
        have hr2 : L ≤ r.length := by
          apply Nat.le_of_not_lt
          intro hl
          have h3 := List.filter_eq_nil_iff.mp (hj2 r.length hl) r hr
          exact h3 (by unfold tp_l; exact decide_eq_true rfl)
        show (if r.length < a.length then some r else some a) = some q
        rw [if_neg (by omega), hq]
    · rw [List.filter_cons_of_neg (by unfold tp_l; intro z; exact e (of_decide_eq_true z))] at h
      rw [ih L q t h hj2]
      have hq : q.length = L := by
        have hm : q ∈ ev.filter (tp_l L) := by rw [h]; exact List.mem_cons_self
        exact of_decide_eq_true (List.mem_filter.mp hm).2
      show (if q.length < a.length then some q else some a) = some q
      rw [if_pos (by omega)]
/-! the events of one target -/
def tp_hd (T : Nat) (p : List Nat) : Bool := decide (p.head? = some T)
def tp_at (T : Nat) (ev : List (List Nat)) : List (List Nat) := ev.filter (tp_hd T)
theorem tp_at_snoc_t {T : Nat} {p : List Nat} (ev : List (List Nat)) (h : p.head? = some T) : tp_at T (ev ++ [p]) = tp_at T ev ++ [p] := by
  unfold tp_at
  rw [List.filter_append, List.filter_cons_of_pos (by unfold tp_hd; exact decide_eq_true h), List.filter_nil]
theorem tp_at_snoc_f {T : Nat} {p : List Nat} (ev : List (List Nat)) (h : ¬ p.head? = some T) : tp_at T (ev ++ [p]) = tp_at T ev := by
  unfold tp_at
  rw [List.filter_append, List.filter_cons_of_neg (by unfold tp_hd; intro z; exact h (of_decide_eq_true z)), List.filter_nil, List.append_nil]
theorem tp_mem_at {T : Nat} {p : List Nat} {ev : List (List Nat)} : p ∈ tp_at T ev ↔ p ∈ ev ∧ p.head? = some T := by
  unfold tp_at tp_hd
  rw [List.mem_filter, decide_eq_true_eq]
/-! what the component's search finds: r is the first path of the least length that has one -/
def tp_X (D : tp_D) (u : Nat → Bool) (T : Nat) (w : Int32) (r : Option (List Nat)) : Prop :=
  (r = none ∧ ∀ k, k < 6 → tp_F D u T w k [] = []) ∨ (∃ k q t, k < 6 ∧ r = some q ∧ tp_F D u T w k [] = q :: t ∧ ∀ j, j < k → tp_F D u T w j [] = [])
theorem tp_FA {D : tp_D} {u : Nat → Bool} {T : Nat} (hT : T < tp_m D) {k : Nat} (hk : k < 6) : tp_F D u T 15 k [] = (tp_at T (tp_E D u 6 [])).filter (tp_l (k + 1)) := by
  rw [tp_FE hT (5 - k) k [] (List.not_mem_nil)]
  have e : k + (5 - k) + 1 = 6 := by omega
  rw [e, tp_at, List.filter_filter]
  apply List.filter_congr
  intro p _
  show (decide (p.head? = some T) && decide (p.length = 0 + k + 1)) = (decide (p.length = k + 1) && decide (p.head? = some T))
  rw [Nat.zero_add, Bool.and_comm]
theorem tp_len_at {D : tp_D} {u : Nat → Bool} {T : Nat} {p : List Nat} (h : p ∈ tp_at T (tp_E D u 6 [])) : 1 ≤ p.length ∧ p.length ≤ 6 := by
  obtain ⟨x, q, e1, e2, e3, e4, _⟩ := tp_E_mem D u 6 [] p (tp_mem_at.mp h).1
  rw [List.length_nil] at e4
  rw [e1, List.length_cons]
  omega
theorem tp_X_best {D : tp_D} {u : Nat → Bool} {T : Nat} {r : Option (List Nat)} (hT : T < tp_m D) (h : tp_X D u T 15 r) : r = tp_best (tp_at T (tp_E D u 6 [])) := by
  rcases h with ⟨h1, h2⟩ | ⟨k, q, t, hk, h1, h2, h3⟩
  · rw [h1]
    cases hb : tp_best (tp_at T (tp_E D u 6 [])) with
    | none => rfl
    | some p =>
      have hp := tp_best_mem _ _ hb
      obtain ⟨l1, l2⟩ := tp_len_at hp
      have h4 := h2 (p.length - 1) (by omega)
      rw [tp_FA hT (by omega)] at h4
      exact absurd (decide_eq_true (show p.length = p.length - 1 + 1 by omega)) (List.filter_eq_nil_iff.mp h4 p hp)
  · rw [h1]
    rw [tp_FA hT hk] at h2
    symm
    apply tp_best_hit _ _ _ _ h2
    intro j hj
    by_cases h0 : j = 0
    · apply List.filter_eq_nil_iff.mpr
      intro p hp z
      have := of_decide_eq_true z
      have := tp_len_at hp
      omega
    · have h4 := h3 (j - 1) (by omega)
      rw [tp_FA hT (by omega)] at h4
      have e : j - 1 + 1 = j := by omega
      rw [e] at h4
      exact h4
/-! whether there is one, under fewer certificates and policies -/
theorem tp_X_none {D : tp_D} {u u' : Nat → Bool} {T : Nat} {w : Int32} {r : Option (List Nat)} (hT : T < tp_m D) (hu : ∀ c, u' c = true → u c = true) (hw : w &&& 15 = w) (h : tp_X D u' T w r) : r = none ↔ ∀ p, p ∈ tp_at T (tp_E D u 6 []) → ¬ tp_g D u' w p = true := by
  have key : ∀ k, k < 6 → (tp_F D u' T w k [] = [] ↔ ∀ p, p ∈ tp_at T (tp_E D u 6 []) → p.length = k + 1 → ¬ tp_g D u' w p = true) := by
    intro k hk
    rw [tp_F_fl T hu hw k [] (fun y hy => absurd hy (List.not_mem_nil)), tp_FA hT hk, List.filter_eq_nil_iff]
    constructor
    · intro g p hp hl
      exact g p (List.mem_filter.mpr ⟨hp, decide_eq_true hl⟩)
    · intro g p hp
      obtain ⟨p1, p2⟩ := List.mem_filter.mp hp
      exact g p p1 (of_decide_eq_true p2)
  rcases h with ⟨h1, h2⟩ | ⟨k, q, t, hk, h1, h2, h3⟩
  · constructor
    · intro _ p hp
      obtain ⟨l1, l2⟩ := tp_len_at hp
      exact (key (p.length - 1) (by omega)).mp (h2 _ (by omega)) p hp (by omega)
    · intro _; exact h1
  · constructor
    · intro z; rw [h1] at z; cases z
    · intro g
      have h4 := (key k hk).mpr (fun p hp _ => g p hp)
      rw [h2] at h4
      cases h4
