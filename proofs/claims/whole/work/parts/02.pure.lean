/-! the pure picture: twelve certificates' data D, and all paths in the order of a depth-first search -/
abbrev tp_D : Type := Nat × (Nat → Int32) × (Nat → Int32) × (Nat → Int32) × (Nat → Int32) × (Nat → Int32) × (Nat → Bool) × (Nat → Bool) × (Nat → Bool) × (Nat → Nat)
def tp_m (D : tp_D) : Nat := D.1
def tp_ie (D : tp_D) : Nat → Int32 := D.2.1
def tp_se (D : tp_D) : Nat → Int32 := D.2.2.1
def tp_po (D : tp_D) : Nat → Int32 := D.2.2.2.1
def tp_al (D : tp_D) : Nat → Int32 := D.2.2.2.2.1
def tp_ba (D : tp_D) : Nat → Int32 := D.2.2.2.2.2.1
def tp_au (D : tp_D) : Nat → Bool := D.2.2.2.2.2.2.1
def tp_sf (D : tp_D) : Nat → Bool := D.2.2.2.2.2.2.2.1
def tp_an (D : tp_D) : Nat → Bool := D.2.2.2.2.2.2.2.2.1
def tp_lm (D : tp_D) : Nat → Nat := D.2.2.2.2.2.2.2.2.2
/-! the beginning of a path is a list with its last certificate first -/
def tp_N (D : tp_D) : List Nat → Int32
  | [] => 255
  | c :: l => (tp_N D l &&& tp_al D c) &&& (tp_ba D c ^^^ (-1))
def tp_P (D : tp_D) (w : Int32) : List Nat → Int32
  | [] => w
  | c :: l => tp_P D w l &&& tp_po D c
def tp_cl (a b : Nat) : Nat := if a < 4 ∧ a < b then a else b
def tp_R (D : tp_D) (r : Nat) : List Nat → Nat
  | [] => r
  | c :: l => tp_cl (tp_lm D c) (if tp_sf D c = true then tp_R D r l else tp_R D r l - 1)
def tp_ns (D : tp_D) : List Nat → Nat
  | [] => 0
  | c :: l => if tp_sf D c = true then tp_ns D l else tp_ns D l + 1
def tp_fo (D : tp_D) (l : List Nat) (c : Nat) : Bool := match l with
  | [] => tp_an D c
  | b :: _ => decide (tp_se D b = tp_ie D c)
def tp_nm (D : tp_D) (l : List Nat) (c : Nat) : Bool := decide (((tp_N D l >>> ((tp_se D c / 10) &&& 31)) &&& 1) = 1)
def tp_lk (D : tp_D) (u : Nat → Bool) (w : Int32) (l : List Nat) (c : Nat) : Bool := u c && (!decide (c ∈ l) && (tp_fo D l c && !decide (tp_P D w l &&& tp_po D c = 0)))
def tp_go (D : tp_D) (u : Nat → Bool) (w : Int32) (l : List Nat) (c : Nat) : Bool := tp_lk D u w l c && (tp_au D c && (tp_sf D c || (decide (0 < tp_R D 100 l) && tp_nm D l c)))
def tp_en (D : tp_D) (u : Nat → Bool) (w : Int32) (l : List Nat) (c : Nat) : Bool := tp_lk D u w l c && tp_nm D l c
theorem tp_lk_iff {D : tp_D} {u : Nat → Bool} {w : Int32} {l : List Nat} {c : Nat} : tp_lk D u w l c = true ↔ u c = true ∧ ¬ c ∈ l ∧ tp_fo D l c = true ∧ ¬ tp_P D w l &&& tp_po D c = 0 := by
  unfold tp_lk
  simp only [Bool.and_eq_true, Bool.not_eq_true', decide_eq_false_iff_not]
theorem tp_go_iff {D : tp_D} {u : Nat → Bool} {w : Int32} {l : List Nat} {c : Nat} : tp_go D u w l c = true ↔ tp_lk D u w l c = true ∧ tp_au D c = true ∧ (tp_sf D c = true ∨ (0 < tp_R D 100 l ∧ tp_nm D l c = true)) := by
  unfold tp_go
  simp only [Bool.and_eq_true, Bool.or_eq_true, decide_eq_true_eq]
theorem tp_en_iff {D : tp_D} {u : Nat → Bool} {w : Int32} {l : List Nat} {c : Nat} : tp_en D u w l c = true ↔ tp_lk D u w l c = true ∧ tp_nm D l c = true := by
  unfold tp_en
  simp only [Bool.and_eq_true]
/-! the room: counted from 6 or from 100 -/
theorem tp_ns_le (D : tp_D) : ∀ l, tp_ns D l ≤ l.length := by
  intro l
  induction l with
  | nil => exact Nat.le_refl _
  | cons c l ih =>
    rw [tp_ns, List.length_cons]
    split <;> omega
theorem tp_room1 {a b n q : Nat} (h1 : a ≤ b) (h2 : a ≤ 6 - n) (h3 : a = b ∨ a = 6 - n) : tp_cl q a ≤ tp_cl q b ∧ tp_cl q a ≤ 6 - n ∧ (tp_cl q a = tp_cl q b ∨ tp_cl q a = 6 - n) := by
  unfold tp_cl
  by_cases x : q < 4 ∧ q < a
  · have y : q < 4 ∧ q < b := by omega
    rw [if_pos x, if_pos y]
    omega
  · rw [if_neg x]
    by_cases y : q < 4 ∧ q < b
    · rw [if_pos y]
      omega
    · rw [if_neg y]
      omega
theorem tp_room (D : tp_D) : ∀ l, tp_R D 6 l ≤ tp_R D 100 l ∧ tp_R D 6 l ≤ 6 - tp_ns D l ∧ (tp_R D 6 l = tp_R D 100 l ∨ tp_R D 6 l = 6 - tp_ns D l) := by
  intro l
  induction l with
  | nil => exact ⟨show 6 ≤ 100 by decide, show 6 ≤ 6 - 0 by decide, Or.inr rfl⟩
  | cons c l ih =>
    obtain ⟨h1, h2, h3⟩ := ih
    rw [tp_R, tp_R, tp_ns]
    by_cases hs : tp_sf D c = true
    · simp only [if_pos hs]
      exact tp_room1 h1 h2 h3
    · simp only [if_neg hs]
      exact tp_room1 (by omega) (by omega) (by omega)
theorem tp_room0 (D : tp_D) {l : List Nat} (h : l.length ≤ 5) : 0 < tp_R D 6 l ↔ 0 < tp_R D 100 l := by
  have h1 := tp_room D l
  have h2 := tp_ns_le D l
  omega
theorem tp_R_le (D : tp_D) (r : Nat) : ∀ l, tp_R D r l ≤ r := by
  intro l
  induction l with
  | nil => exact Nat.le_refl _
  | cons c l ih =>
    rw [tp_R, tp_cl]
    by_cases hs : tp_sf D c = true
    · rw [if_pos hs]
      split <;> omega
    · rw [if_neg hs]
      split <;> omega
/-! a union over an interval, in order -/
def tp_fm (f : Nat → List (List Nat)) : Nat → Nat → List (List Nat)
  | 0, _ => []
  | n + 1, s => f s ++ tp_fm f n (s + 1)
theorem tp_fm_filter (h : List Nat → Bool) (f : Nat → List (List Nat)) : ∀ n s, (tp_fm f n s).filter h = tp_fm (fun c => (f c).filter h) n s := by
  intro n
  induction n with
  | zero => intro s; rfl
  | succ n ih => intro s; rw [tp_fm, tp_fm, List.filter_append, ih]
theorem tp_fm_congr {f g : Nat → List (List Nat)} : ∀ n s, (∀ c, s ≤ c → c < s + n → f c = g c) → tp_fm f n s = tp_fm g n s := by
  intro n
  induction n with
  | zero => intro s _; rfl
  | succ n ih =>
    intro s h
    rw [tp_fm, tp_fm, h s (Nat.le_refl _) (by omega), ih (s + 1) (fun c h1 h2 => h c (by omega) (by omega))]
theorem tp_fm_mem {f : Nat → List (List Nat)} {p : List Nat} : ∀ n s, p ∈ tp_fm f n s → ∃ c, s ≤ c ∧ c < s + n ∧ p ∈ f c := by
  intro n
  induction n with
  | zero => intro s h; exact absurd h (List.not_mem_nil)
  | succ n ih =>
    intro s h
    rw [tp_fm] at h
    rcases List.mem_append.mp h with h | h
    · exact ⟨s, Nat.le_refl _, by omega, h⟩
    · obtain ⟨c, h1, h2, h3⟩ := ih (s + 1) h
      exact ⟨c, by omega, by omega, h3⟩
theorem tp_fm_nil {f : Nat → List (List Nat)} : ∀ n s, (∀ c, s ≤ c → c < s + n → f c = []) → tp_fm f n s = [] := by
  intro n
  induction n with
  | zero => intro s _; rfl
  | succ n ih =>
    intro s h
    rw [tp_fm]
    exact List.append_eq_nil_iff.mpr ⟨h s (Nat.le_refl _) (by omega), ih (s + 1) (fun c h1 h2 => h c (by omega) (by omega))⟩
theorem tp_fm_pick {T : Nat} {X : List (List Nat)} : ∀ n s, s ≤ T → T < s + n → tp_fm (fun c => if c = T then X else []) n s = X := by
  intro n
  induction n with
  | zero => intro s h1 h2; omega
  | succ n ih =>
    intro s h1 h2
    rw [tp_fm]
    by_cases h : s = T
    · have hz : tp_fm (fun c => if c = T then X else []) n (s + 1) = [] := tp_fm_nil n (s + 1) (fun c h3 h4 => if_neg (by omega))
      rw [hz, List.append_nil]
      exact if_pos h
    · rw [ih (s + 1) (by omega) (by omega)]
      exact (congrArg (fun z => z ++ X) (if_neg h)).trans (List.nil_append X)
/-! all paths (E: the order of the reference), and those of one target and length (F: the order of the component) -/
def tp_E (D : tp_D) (u : Nat → Bool) : Nat → List Nat → List (List Nat)
  | 0, _ => []
  | k + 1, l => tp_fm (fun c => (if tp_en D u 15 l c = true then [c :: l] else []) ++ (if tp_go D u 15 l c = true then tp_E D u k (c :: l) else [])) (tp_m D) 0
def tp_F (D : tp_D) (u : Nat → Bool) (T : Nat) (w : Int32) : Nat → List Nat → List (List Nat)
  | 0, l => if tp_en D u w l T = true then [T :: l] else []
  | k + 1, l => tp_fm (fun c => if tp_go D u w l c = true ∧ c ≠ T then tp_F D u T w k (c :: l) else []) (tp_m D) 0
theorem tp_P_w (D : tp_D) {w : Int32} (hw : w &&& 15 = w) : ∀ l, tp_P D w l = w &&& tp_P D 15 l := by
  intro l
  induction l with
  | nil => exact hw.symm
  | cons c l ih => rw [tp_P, tp_P, ih, Int32.and_assoc]
theorem tp_P_0 (D : tp_D) (w : Int32) (c : Nat) {l : List Nat} (h : tp_P D w l = 0) : tp_P D w (c :: l) = 0 := by
  rw [tp_P, h, Int32.zero_and]
theorem tp_P_15 (D : tp_D) {w : Int32} (hw : w &&& 15 = w) {l : List Nat} (h : ¬ tp_P D w l = 0) : ¬ tp_P D 15 l = 0 := by
  intro z
  apply h
  rw [tp_P_w D hw l, z, Int32.and_zero]
theorem tp_E_mem (D : tp_D) (u : Nat → Bool) : ∀ k l p, p ∈ tp_E D u k l → ∃ x q, p = x :: q ∧ (∀ y, y ∈ l → y ∈ q) ∧ l.length ≤ q.length ∧ q.length < l.length + k ∧ ¬ x ∈ q ∧ u x = true ∧ x < tp_m D ∧ ¬ tp_P D 15 p = 0 ∧ ((∀ y, y ∈ l → u y = true) → ∀ y, y ∈ q → u y = true) ∧ ((∀ y, y ∈ l → y < tp_m D) → ∀ y, y ∈ q → y < tp_m D) := by
  intro k
  induction k with
  | zero => intro l p h; exact absurd h (List.not_mem_nil)
  | succ k ih =>
    intro l p h
    rw [tp_E] at h
    obtain ⟨c, _, hc, h⟩ := tp_fm_mem _ _ h
    rcases List.mem_append.mp h with h | h
    · by_cases e : tp_en D u 15 l c = true
      · rw [if_pos e] at h
        have hp : p = c :: l := List.mem_singleton.mp h
        obtain ⟨h1, h2⟩ := tp_en_iff.mp e
        obtain ⟨a1, a2, a3, a4⟩ := tp_lk_iff.mp h1
        exact ⟨c, l, hp, fun y hy => hy, Nat.le_refl _, by omega, a2, a1, by omega, by rw [hp]; exact a4, fun g => g, fun g => g⟩
      · rw [if_neg e] at h
        exact absurd h (List.not_mem_nil)
    · by_cases e : tp_go D u 15 l c = true
      · rw [if_pos e] at h
        obtain ⟨h1, h2⟩ := tp_go_iff.mp e
        obtain ⟨a1, a2, a3, a4⟩ := tp_lk_iff.mp h1
        obtain ⟨x, q, e1, e2, e3, e4, e5, e6, e7, e8, e9, e10⟩ := ih (c :: l) p h
        rw [List.length_cons] at e3 e4
        refine ⟨x, q, e1, fun y hy => e2 y (List.mem_cons_of_mem _ hy), by omega, by omega, e5, e6, e7, e8, fun g => e9 ?_, fun g => e10 ?_⟩
        · intro y hy
          rcases List.mem_cons.mp hy with hy | hy
          · rw [hy]; exact a1
          · exact g y hy
        · intro y hy
          rcases List.mem_cons.mp hy with hy | hy
          · rw [hy]; omega
          · exact g y hy
      · rw [if_neg e] at h
        exact absurd h (List.not_mem_nil)
theorem tp_F_sup (D : tp_D) (u : Nat → Bool) (T : Nat) (w : Int32) : ∀ k l p, p ∈ tp_F D u T w k l → (∀ y, y ∈ l → y ∈ p) ∧ (∀ v, tp_P D v l = 0 → tp_P D v p = 0) := by
  intro k
  induction k with
  | zero =>
    intro l p h
    rw [tp_F] at h
    by_cases e : tp_en D u w l T = true
    · rw [if_pos e] at h
      have hp : p = T :: l := List.mem_singleton.mp h
      rw [hp]
      exact ⟨fun y hy => List.mem_cons_of_mem _ hy, fun v hv => tp_P_0 D v T hv⟩
    · rw [if_neg e] at h
      exact absurd h (List.not_mem_nil)
  | succ k ih =>
    intro l p h
    rw [tp_F] at h
    obtain ⟨c, _, hc, h⟩ := tp_fm_mem _ _ h
    by_cases e : tp_go D u w l c = true ∧ c ≠ T
    · rw [if_pos e] at h
      obtain ⟨h1, h2⟩ := ih (c :: l) p h
      exact ⟨fun y hy => h1 y (List.mem_cons_of_mem _ hy), fun v hv => h2 v (tp_P_0 D v c hv)⟩
    · rw [if_neg e] at h
      exact absurd h (List.not_mem_nil)
/-! F under fewer certificates and fewer policies -/
def tp_g (D : tp_D) (u : Nat → Bool) (w : Int32) (p : List Nat) : Bool := p.all u && !decide (tp_P D w p = 0)
theorem tp_g_iff {D : tp_D} {u : Nat → Bool} {w : Int32} {p : List Nat} : tp_g D u w p = true ↔ (∀ y, y ∈ p → u y = true) ∧ ¬ tp_P D w p = 0 := by
  unfold tp_g
  simp only [Bool.and_eq_true, Bool.not_eq_true', decide_eq_false_iff_not, List.all_eq_true]
theorem tp_lk_up {D : tp_D} {u u' : Nat → Bool} {w : Int32} {l : List Nat} {c : Nat} (hu : ∀ c, u' c = true → u c = true) (hw : w &&& 15 = w) (h : tp_lk D u' w l c = true) : tp_lk D u 15 l c = true := by
  obtain ⟨a1, a2, a3, a4⟩ := tp_lk_iff.mp h
  exact tp_lk_iff.mpr ⟨hu c a1, a2, a3, tp_P_15 D hw (l := c :: l) a4⟩
theorem tp_lk_dn {D : tp_D} {u u' : Nat → Bool} {w : Int32} {l : List Nat} {c : Nat} (h1 : u' c = true) (h2 : ¬ tp_P D w (c :: l) = 0) (h : tp_lk D u 15 l c = true) : tp_lk D u' w l c = true := by
  obtain ⟨a1, a2, a3, a4⟩ := tp_lk_iff.mp h
  exact tp_lk_iff.mpr ⟨h1, a2, a3, h2⟩
theorem tp_F_fl {D : tp_D} {u u' : Nat → Bool} {w : Int32} (T : Nat) (hu : ∀ c, u' c = true → u c = true) (hw : w &&& 15 = w) : ∀ k l, (∀ y, y ∈ l → u' y = true) → tp_F D u' T w k l = (tp_F D u T 15 k l).filter (tp_g D u' w) := by
  intro k
  induction k with
  | zero =>
    intro l hl
    rw [tp_F, tp_F]
    by_cases e : tp_en D u' w l T = true
    · obtain ⟨e1, e2⟩ := tp_en_iff.mp e
      have e3 : tp_en D u 15 l T = true := tp_en_iff.mpr ⟨tp_lk_up hu hw e1, e2⟩
      obtain ⟨a1, a2, a3, a4⟩ := tp_lk_iff.mp e1
      have e4 : tp_g D u' w (T :: l) = true := by
        refine tp_g_iff.mpr ⟨?_, a4⟩
        intro y hy
        rcases List.mem_cons.mp hy with hy | hy
        · rw [hy]; exact a1
        · exact hl y hy
      rw [if_pos e, if_pos e3, List.filter_cons_of_pos e4, List.filter_nil]
    · rw [if_neg e]
      by_cases e3 : tp_en D u 15 l T = true
      · rw [if_pos e3]
        have e4 : ¬ tp_g D u' w (T :: l) = true := by
          intro g
          obtain ⟨g1, g2⟩ := tp_g_iff.mp g
          obtain ⟨b1, b2⟩ := tp_en_iff.mp e3
          exact e (tp_en_iff.mpr ⟨tp_lk_dn (g1 T (List.mem_cons_self)) g2 b1, b2⟩)
        rw [List.filter_cons_of_neg e4, List.filter_nil]
      · rw [if_neg e3, List.filter_nil]
  | succ k ih =>
    intro l hl
    rw [tp_F, tp_F, tp_fm_filter]
    apply tp_fm_congr
    intro c _ _
    by_cases e : tp_go D u' w l c = true ∧ c ≠ T
    · obtain ⟨e0, eT⟩ := e
      obtain ⟨e1, e2⟩ := tp_go_iff.mp e0
      have e3 : tp_go D u 15 l c = true := tp_go_iff.mpr ⟨tp_lk_up hu hw e1, e2⟩
      obtain ⟨a1, a2, a3, a4⟩ := tp_lk_iff.mp e1
      rw [if_pos ⟨e0, eT⟩, if_pos ⟨e3, eT⟩]
      apply ih
      intro y hy
      rcases List.mem_cons.mp hy with hy | hy
      · rw [hy]; exact a1
      · exact hl y hy
    · rw [if_neg e]
      by_cases e3 : tp_go D u 15 l c = true ∧ c ≠ T
      · rw [if_pos e3]
        symm
        apply List.filter_eq_nil_iff.mpr
        intro p hp g
        obtain ⟨g1, g2⟩ := tp_g_iff.mp g
        obtain ⟨s1, s2⟩ := tp_F_sup D u T 15 k (c :: l) p hp
        obtain ⟨b1, b2⟩ := tp_go_iff.mp e3.1
        exact e ⟨tp_go_iff.mpr ⟨tp_lk_dn (g1 c (s1 c (List.mem_cons_self))) (fun z => g2 (s2 w z)) b1, b2⟩, e3.2⟩
      · rw [if_neg e3, List.filter_nil]
/-! F out of E -/
def tp_h (T n : Nat) (p : List Nat) : Bool := decide (p.head? = some T) && decide (p.length = n)
theorem tp_h_iff {T n : Nat} {p : List Nat} : tp_h T n p = true ↔ p.head? = some T ∧ p.length = n := by
  unfold tp_h
  simp only [Bool.and_eq_true, decide_eq_true_eq]
theorem tp_FE {D : tp_D} {u : Nat → Bool} {T : Nat} (hT : T < tp_m D) (j : Nat) : ∀ k l, ¬ T ∈ l → tp_F D u T 15 k l = (tp_E D u (k + j + 1) l).filter (tp_h T (l.length + k + 1)) := by
  intro k
  induction k with
  | zero =>
    intro l hl
    rw [tp_F, tp_E, tp_fm_filter]
    have e : tp_fm (fun c => ((if tp_en D u 15 l c = true then [c :: l] else []) ++ (if tp_go D u 15 l c = true then tp_E D u (0 + j) (c :: l) else [])).filter (tp_h T (l.length + 0 + 1))) (tp_m D) 0 = tp_fm (fun c => if c = T then (if tp_en D u 15 l T = true then [T :: l] else []) else []) (tp_m D) 0 := by
      apply tp_fm_congr
      intro c _ _
      rw [List.filter_append]
      have z : (if tp_go D u 15 l c = true then tp_E D u (0 + j) (c :: l) else []).filter (tp_h T (l.length + 0 + 1)) = [] := by
        apply List.filter_eq_nil_iff.mpr
        intro p hp g
        by_cases e : tp_go D u 15 l c = true
        · rw [if_pos e] at hp
          obtain ⟨x, q, e1, e2, e3, _⟩ := tp_E_mem D u _ _ p hp
          have g2 := (tp_h_iff.mp g).2
          rw [e1, List.length_cons] at g2
          rw [List.length_cons] at e3
          omega
        · rw [if_neg e] at hp
          exact absurd hp (List.not_mem_nil)
      rw [z, List.append_nil]
      by_cases hc : c = T
      · rw [if_pos hc, hc]
        by_cases e : tp_en D u 15 l T = true
        · rw [if_pos e, List.filter_cons_of_pos (tp_h_iff.mpr ⟨rfl, by rw [List.length_cons]⟩), List.filter_nil]
        · rw [if_neg e, List.filter_nil]
      · rw [if_neg hc]
        by_cases e : tp_en D u 15 l c = true
        · have hn : ¬ tp_h T (l.length + 0 + 1) (c :: l) = true := fun g => hc (Option.some.inj (tp_h_iff.mp g).1)
          rw [if_pos e, List.filter_cons_of_neg hn, List.filter_nil]
        · rw [if_neg e, List.filter_nil]
    rw [e, tp_fm_pick _ _ (Nat.zero_le _) (by omega)]
  | succ k ih =>
    intro l hl
    have ek : k + 1 + j + 1 = (k + j + 1) + 1 := by omega
    rw [ek, tp_F, tp_E, tp_fm_filter]
    apply tp_fm_congr
    intro c _ _
    rw [List.filter_append]
    have z : (if tp_en D u 15 l c = true then [c :: l] else []).filter (tp_h T (l.length + (k + 1) + 1)) = [] := by
      by_cases e : tp_en D u 15 l c = true
      · rw [if_pos e, List.filter_cons_of_neg ?_, List.filter_nil]
        intro g
        have g2 := (tp_h_iff.mp g).2
        rw [List.length_cons] at g2
        omega
      · rw [if_neg e, List.filter_nil]
    rw [z, List.nil_append]
    by_cases e : tp_go D u 15 l c = true
    · by_cases hc : c = T
      · rw [if_neg (fun g => g.2 hc), if_pos e]
        symm
        apply List.filter_eq_nil_iff.mpr
        intro p hp g
        obtain ⟨x, q, e1, e2, e3, e4, e5, _⟩ := tp_E_mem D u _ _ p hp
        have g1 := (tp_h_iff.mp g).1
        rw [e1] at g1
        have hx : x = T := Option.some.inj g1
        exact e5 (e2 x (by rw [hx, hc]; exact List.mem_cons_self))
      · rw [if_pos ⟨e, hc⟩, if_pos e, ih (c :: l) (fun g => by
          rcases List.mem_cons.mp g with g | g
          · exact hc g.symm
          · exact hl g)]
        have el : (c :: l).length + k + 1 = l.length + (k + 1) + 1 := by rw [List.length_cons]; omega
        rw [el]
    · rw [if_neg (fun g => e g.1), if_neg e, List.filter_nil]
