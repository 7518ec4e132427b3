/-! an array that holds a list (its last element first), place by place -/
def tp_st (a : Nat → Int32) : List Nat → Prop
  | [] => True
  | c :: l => a l.length = nI c ∧ tp_st a l
theorem tp_st_congr {a b : Nat → Int32} : ∀ l, (∀ i, i < l.length → b i = a i) → tp_st a l → tp_st b l := by
  intro l
  induction l with
  | nil => intro _ _; exact True.intro
  | cons c l ih =>
    intro h g
    rw [List.length_cons] at h
    exact ⟨(h _ (Nat.lt_succ_self _)).trans g.1, ih (fun i hi => h i (by omega)) g.2⟩
theorem tp_st_get {a : Nat → Int32} : ∀ l, tp_st a l → ∀ i, i < l.length → ∃ c, c ∈ l ∧ a i = nI c := by
  intro l
  induction l with
  | nil => intro _ i hi; exact absurd hi (Nat.not_lt_zero _)
  | cons c l ih =>
    intro g i hi
    rw [List.length_cons] at hi
    by_cases h : i = l.length
    · exact ⟨c, List.mem_cons_self, by rw [h]; exact g.1⟩
    · obtain ⟨d, h1, h2⟩ := ih g.2 i (by omega)
      exact ⟨d, List.mem_cons_of_mem _ h1, h2⟩
theorem tp_st_mem {a : Nat → Int32} : ∀ l, tp_st a l → ∀ c, c ∈ l → ∃ i, i < l.length ∧ a i = nI c := by
  intro l
  induction l with
  | nil => intro _ c hc; exact absurd hc (List.not_mem_nil)
  | cons d l ih =>
    intro g c hc
    rw [List.length_cons]
    rcases List.mem_cons.mp hc with hc | hc
    · exact ⟨l.length, by omega, by rw [hc]; exact g.1⟩
    · obtain ⟨i, h1, h2⟩ := ih g.2 c hc
      exact ⟨i, by omega, h2⟩
theorem tp_st_two {a b : Nat → Int32} : ∀ l, tp_st a l → tp_st b l → ∀ i, i < l.length → a i = b i := by
  intro l
  induction l with
  | nil => intro _ _ i hi; exact absurd hi (Nat.not_lt_zero _)
  | cons c l ih =>
    intro g h i hi
    rw [List.length_cons] at hi
    by_cases e : i = l.length
    · rw [e]; exact g.1.trans h.1.symm
    · exact ih g.2 h.2 i (by omega)
/-! the component's levels -/
def tp_lx (D : tp_D) (u : Nat → Bool) (T : Nat) (w : Int32) (cl nl rl pl : Nat → Int32) (l : List Nat) : Prop :=
  (∀ c, c < 32 → bt (cl l.length) c = (u c && (!decide (c = T) && !decide (c ∈ l)))) ∧ nl l.length = tp_N D l ∧ rl l.length = nI (tp_R D 6 l) ∧ pl l.length = tp_P D w l
def tp_LX (D : tp_D) (u : Nat → Bool) (T : Nat) (w : Int32) (cl nl rl pl : Nat → Int32) : List Nat → Prop
  | [] => tp_lx D u T w cl nl rl pl []
  | c :: l => tp_lx D u T w cl nl rl pl (c :: l) ∧ tp_LX D u T w cl nl rl pl l
theorem tp_LX_top {D : tp_D} {u : Nat → Bool} {T : Nat} {w : Int32} {cl nl rl pl : Nat → Int32} : ∀ l, tp_LX D u T w cl nl rl pl l → tp_lx D u T w cl nl rl pl l := by
  intro l h
  cases l with
  | nil => exact h
  | cons c l => exact h.1
theorem tp_lx_congr {D : tp_D} {u : Nat → Bool} {T : Nat} {w : Int32} {cl nl rl pl cl' nl' rl' pl' : Nat → Int32} {l : List Nat} (h1 : cl' l.length = cl l.length) (h2 : nl' l.length = nl l.length) (h3 : rl' l.length = rl l.length) (h4 : pl' l.length = pl l.length) (h : tp_lx D u T w cl nl rl pl l) : tp_lx D u T w cl' nl' rl' pl' l := by
  unfold tp_lx at *
  rw [h1, h2, h3, h4]
  exact h
theorem tp_LX_congr {D : tp_D} {u : Nat → Bool} {T : Nat} {w : Int32} {cl nl rl pl cl' nl' rl' pl' : Nat → Int32} : ∀ l, (∀ i, i ≤ l.length → cl' i = cl i ∧ nl' i = nl i ∧ rl' i = rl i ∧ pl' i = pl i) → tp_LX D u T w cl nl rl pl l → tp_LX D u T w cl' nl' rl' pl' l := by
  intro l
  induction l with
  | nil =>
    intro h g
    obtain ⟨h1, h2, h3, h4⟩ := h 0 (Nat.le_refl _)
    exact tp_lx_congr (l := []) h1 h2 h3 h4 g
  | cons c l ih =>
    intro h g
    obtain ⟨h1, h2, h3, h4⟩ := h (c :: l).length (Nat.le_refl _)
    exact ⟨tp_lx_congr h1 h2 h3 h4 g.1, ih (fun i hi => h i (by rw [List.length_cons]; omega)) g.2⟩
/-! the reference's levels -/
def tp_ly (D : tp_D) (na po ro : Nat → Int32) (l : List Nat) : Prop := na l.length = tp_N D l ∧ po l.length = tp_P D 15 l ∧ ro l.length = nI (tp_R D 100 l)
def tp_LY (D : tp_D) (na po ro : Nat → Int32) : List Nat → Prop
  | [] => tp_ly D na po ro []
  | c :: l => tp_ly D na po ro (c :: l) ∧ tp_LY D na po ro l
theorem tp_LY_top {D : tp_D} {na po ro : Nat → Int32} : ∀ l, tp_LY D na po ro l → tp_ly D na po ro l := by
  intro l h
  cases l with
  | nil => exact h
  | cons c l => exact h.1
theorem tp_ly_congr {D : tp_D} {na po ro na' po' ro' : Nat → Int32} {l : List Nat} (h1 : na' l.length = na l.length) (h2 : po' l.length = po l.length) (h3 : ro' l.length = ro l.length) (h : tp_ly D na po ro l) : tp_ly D na' po' ro' l := by
  unfold tp_ly at *
  rw [h1, h2, h3]
  exact h
theorem tp_LY_congr {D : tp_D} {na po ro na' po' ro' : Nat → Int32} : ∀ l, (∀ i, i ≤ l.length → na' i = na i ∧ po' i = po i ∧ ro' i = ro i) → tp_LY D na po ro l → tp_LY D na' po' ro' l := by
  intro l
  induction l with
  | nil =>
    intro h g
    obtain ⟨h1, h2, h3⟩ := h 0 (Nat.le_refl _)
    exact tp_ly_congr (l := []) h1 h2 h3 g
  | cons c l ih =>
    intro h g
    obtain ⟨h1, h2, h3⟩ := h (c :: l).length (Nat.le_refl _)
    exact ⟨tp_ly_congr h1 h2 h3 g.1, ih (fun i hi => h i (by rw [List.length_cons]; omega)) g.2⟩
/-! what the reference's tables hold for a target, after the events ev -/
def tp_Z (D : tp_D) (ev : List (List Nat)) (le fo co st : Nat → Int32) (T : Nat) : Prop :=
  le T = nI (tp_ln (tp_best (tp_at T ev))) ∧ (∀ q, tp_best (tp_at T ev) = some q → tp_st (fun i => st (6 * T + i)) q) ∧ (∀ b, b < 32 → (bt (fo T) b = true ↔ ∃ p, p ∈ tp_at T ev ∧ bt (tp_P D 15 p) b = true)) ∧ (∀ o, o < 32 → tp_at T ev ≠ [] → (bt (co T) o = true ↔ ∀ p, p ∈ tp_at T ev → o ∈ p.tail)) ∧ (∀ p, p ∈ tp_at T ev → 1 ≤ p.length ∧ p.length ≤ 6)
theorem tp_Z_0 {D : tp_D} {le fo co st : Nat → Int32} {T : Nat} (h1 : le T = 0) (h2 : fo T = 0) : tp_Z D [] le fo co st T := by
  refine ⟨h1.trans nI_0.symm, (fun q hq => nomatch (show (none : Option (List Nat)) = some q from hq)), ?_, fun o _ h => absurd rfl h, fun p hp => absurd hp (List.not_mem_nil)⟩
  intro b _
  rw [h2, b_0]
  constructor
  · intro z; cases z
  · intro ⟨p, hp, _⟩; exact absurd hp (List.not_mem_nil)
theorem tp_Z_congr {D : tp_D} {ev : List (List Nat)} {le fo co st le' fo' co' st' : Nat → Int32} {T : Nat} (hZ : tp_Z D ev le fo co st T) (e1 : le' T = le T) (e2 : fo' T = fo T) (e3 : co' T = co T) (e4 : ∀ i, i < 6 → st' (6 * T + i) = st (6 * T + i)) : tp_Z D ev le' fo' co' st' T := by
  obtain ⟨z1, z2, z3, z4, z5⟩ := hZ
  unfold tp_Z
  rw [e1, e2, e3]
  refine ⟨z1, fun q hq => ?_, z3, z4, z5⟩
  have hl := z5 q (tp_best_mem _ _ hq)
  exact tp_st_congr q (fun i hi => e4 i (by omega)) (z2 q hq)
theorem tp_Z_ne {D : tp_D} {ev : List (List Nat)} {le fo co st : Nat → Int32} {T c : Nat} {l : List Nat} (h : T ≠ c) (hZ : tp_Z D ev le fo co st T) : tp_Z D (ev ++ [c :: l]) le fo co st T := by
  unfold tp_Z
  have hn : ¬ (c :: l).head? = some T := fun z => h (Option.some.inj z).symm
  rw [tp_at_snoc_f ev hn]
  exact hZ
theorem tp_Z_eq {D : tp_D} {ev : List (List Nat)} {le fo co st le' fo' co' st' : Nat → Int32} {c : Nat} {l : List Nat} {ot : Int32} (hl : l.length ≤ 5) (hZ : tp_Z D ev le fo co st c) (ho : ∀ o, o < 32 → (bt ot o = true ↔ o ∈ l))
    (h1 : (le c = 0 ∨ nI (l.length + 1) < le c) → le' c = nI (l.length + 1) ∧ tp_st (fun i => st' (6 * c + i)) (c :: l)) (h2 : ¬ (le c = 0 ∨ nI (l.length + 1) < le c) → le' c = le c ∧ ∀ i, i < 6 → st' (6 * c + i) = st (6 * c + i)) (h3 : fo' c = fo c ||| tp_P D 15 (c :: l)) (h4 : le c = 0 → co' c = ot) (h5 : ¬ le c = 0 → co' c = co c &&& ot) : tp_Z D (ev ++ [c :: l]) le' fo' co' st' c := by
  obtain ⟨z1, z2, z3, z4, z5⟩ := hZ
  have ea : tp_at c (ev ++ [c :: l]) = tp_at c ev ++ [c :: l] := tp_at_snoc_t ev rfl
  have hf : ∀ b, b < 32 → (bt (fo' c) b = true ↔ ∃ p, p ∈ tp_at c ev ++ [c :: l] ∧ bt (tp_P D 15 p) b = true) := by
    intro b hb
    rw [h3, b_or, Bool.or_eq_true, z3 b hb]
    constructor
    · rintro (⟨p, p1, p2⟩ | g)
      · exact ⟨p, List.mem_append.mpr (Or.inl p1), p2⟩
      · exact ⟨c :: l, List.mem_append.mpr (Or.inr List.mem_cons_self), g⟩
    · rintro ⟨p, p1, p2⟩
      rcases List.mem_append.mp p1 with p1 | p1
      · exact Or.inl ⟨p, p1, p2⟩
      · rw [List.mem_singleton.mp p1] at p2
        exact Or.inr p2
  have h6 : ∀ p, p ∈ tp_at c ev ++ [c :: l] → 1 ≤ p.length ∧ p.length ≤ 6 := by
    intro p hp
    rcases List.mem_append.mp hp with hp | hp
    · exact z5 p hp
    · rw [List.mem_singleton.mp hp, List.length_cons]
      omega
  unfold tp_Z
  rw [ea, tp_best_snoc]
  cases hb : tp_best (tp_at c ev) with
  | none =>
    have hn := tp_best_none _ hb
    have h0 : le c = 0 := by rw [z1, hb]; rfl
    obtain ⟨g1, g2⟩ := h1 (Or.inl h0)
    refine ⟨g1, ?_, hf, ?_, h6⟩
    · intro q hq
      have hq2 : c :: l = q := Option.some.inj hq
      rw [← hq2]
      exact g2
    · intro o h32 _
      rw [h4 h0, ho o h32, hn]
      constructor
      · intro g p hp
        rw [List.nil_append] at hp
        rw [List.mem_singleton.mp hp]
        exact g
      · intro g
        exact g (c :: l) (List.mem_append.mpr (Or.inr List.mem_cons_self))
  | some r =>
    have hr := z5 r (tp_best_mem _ _ hb)
    have e0 : le c = nI r.length := by rw [z1, hb]; rfl
    have h0 : ¬ le c = 0 := by rw [e0]; exact nI_ne0 (by omega) (by omega)
    have hc : ∀ o, o < 32 → tp_at c ev ++ [c :: l] ≠ [] → (bt (co' c) o = true ↔ ∀ p, p ∈ tp_at c ev ++ [c :: l] → o ∈ p.tail) := by
      intro o h32 _
      have hne : tp_at c ev ≠ [] := by
        intro z
        rw [z] at hb
        cases hb
      rw [h5 h0, b_and, Bool.and_eq_true, z4 o h32 hne, ho o h32]
      constructor
      · intro ⟨g1, g2⟩ p hp
        rcases List.mem_append.mp hp with hp | hp
        · exact g1 p hp
        · rw [List.mem_singleton.mp hp]
          exact g2
      · intro g
        exact ⟨fun p hp => g p (List.mem_append.mpr (Or.inl hp)), g (c :: l) (List.mem_append.mpr (Or.inr List.mem_cons_self))⟩
    by_cases hs : l.length + 1 < r.length
    · obtain ⟨g1, g2⟩ := h1 (Or.inr (by rw [e0]; exact nI_lt hs (by omega)))
      have eb : tp_bs (some r) (c :: l) = some (c :: l) := if_pos hs
      rw [eb]
      refine ⟨g1, ?_, hf, hc, h6⟩
      intro q hq
      rw [← Option.some.inj hq]
      exact g2
    · obtain ⟨g1, g2⟩ := h2 (by
        intro z
        rcases z with z | z
        · exact h0 z
        · rw [e0, nI_ltI (by omega) (by omega)] at z
          exact hs z)
      have eb : tp_bs (some r) (c :: l) = some r := if_neg hs
      rw [eb]
      refine ⟨g1.trans e0, ?_, hf, hc, h6⟩
      intro q hq
      rw [← Option.some.inj hq]
      exact tp_st_congr r (fun i hi => g2 i (by omega)) (z2 r hb)
