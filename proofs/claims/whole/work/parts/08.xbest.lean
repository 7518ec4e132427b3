/-! the component's bestLength and usableAt -/
section
variable {D : tp_D} {u : Nat → Bool} {T : Nat} {w : Int32} {aX : Int32} {sf gf gt au li rv he aT aE pa cl nl rl pl : Nat → Int32}
theorem tx_best58 {post : Int32 → SX → Prop} (hS : tx_S D sf au li aT aE) (hA : ∀ c, c < tp_m D → bt aX c = tp_an D c) (hT : T < tp_m D) (hu : u T = true) (H : ∀ r pa' cl' nl' rl' pl', tp_X D u T w r → (∀ q, r = some q → tp_st pa' q) → post (nI (tp_ln r)) ((nI (tp_m D)), aX, (tp_ie D), (tp_se D), sf, gf, gt, au, li, (tp_al D), (tp_ba D), (tp_po D), rv, he, aT, aE, pa', cl', nl', rl', pl')) : ∀ (j k : Nat) (pa cl nl rl pl : Nat → Int32) (n : Nat), k + j = 6 → j < n → tp_LX D u T w cl nl rl pl [] → (∀ i, i < k → tp_F D u T w i [] = []) → wX_bestLength_58 post (nI T) n (nI (k + 1)) (nI (tp_m D)) aX (tp_ie D) (tp_se D) sf gf gt au li (tp_al D) (tp_ba D) (tp_po D) rv he aT aE pa cl nl rl pl := by
  intro j
  induction j with
  | zero =>
    intro k pa cl nl rl pl n hk hn hLX h0
    obtain ⟨n, rfl⟩ : ∃ k, n = k + 1 := ⟨n - 1, by omega⟩
    refine br_t (nI_lt (a := 6) (by omega) (by omega)) ?_
    exact H none pa cl nl rl pl (Or.inl ⟨rfl, fun i hi => h0 i (by omega)⟩) (fun q hq => nomatch hq)
  | succ j ih =>
    intro k pa cl nl rl pl n hk hn hLX h0
    obtain ⟨n, rfl⟩ : ∃ k, n = k + 1 := ⟨n - 1, by omega⟩
    rw [wX_bestLength_58]
    dsimp only
    refine br_f (nI_nlt (a := 6) (by omega) (by omega)) ?_
    rw [nI_pred k]
    refine tx_find (k := k) hS hA (by omega) hT hu hLX (fun q t pa' cl' nl' rl' pl' e g => ?_) (fun e pa' cl' nl' rl' pl' g => ?_)
    · have hq : q.length = k + 1 := by
        have := tp_F_len D u T w k [] q (by rw [e]; exact List.mem_cons_self)
        rw [List.length_nil] at this
        omega
      have h := H (some q) pa' cl' nl' rl' pl' (Or.inr ⟨k, q, t, by omega, rfl, e, h0⟩) (fun q2 hq2 => by rw [← Option.some.inj hq2]; exact g)
      rw [tp_ln, hq] at h
      exact br_f (by decide) h
    · refine br_t rfl (nm_r (nI_1 (k + 1)) (ih (k + 1) pa' cl' nl' rl' pl' n (by omega) (by omega) g ?_))
      intro i hi
      by_cases z : i = k
      · rw [z]; exact e
      · exact h0 i (by omega)
theorem tx_best {post : Int32 → SX → Prop} {U : Int32} (hS : tx_S D sf au li aT aE) (hT : T < tp_m D) (H : ∀ r aX' pa' cl' nl' rl' pl', tp_X D (bt U) T w r → (∀ q, r = some q → tp_st pa' q) → post (nI (tp_ln r)) ((nI (tp_m D)), aX', (tp_ie D), (tp_se D), sf, gf, gt, au, li, (tp_al D), (tp_ba D), (tp_po D), rv, he, aT, aE, pa', cl', nl', rl', pl')) : wpX_bestLength post ((nI (tp_m D)), aX, (tp_ie D), (tp_se D), sf, gf, gt, au, li, (tp_al D), (tp_ba D), (tp_po D), rv, he, aT, aE, pa, cl, nl, rl, pl) (nI T) U w := by
  have h12 := hS.1
  unfold wpX_bestLength
  by_cases hb : bt U T = true
  · refine br_f (fun z => ?_) ?_
    · rw [tb_has0 _ (by omega), hb] at z
      cases z
    refine tx_anch hS (fun x hx => nm_e (nm_e (nm_e (nm_e ⟨7, ?_⟩))))
    refine tx_best58 (u := bt U) (w := w) hS hx hT hb (fun r pa' cl' nl' rl' pl' => H r x pa' cl' nl' rl' pl') 6 0 pa _ _ _ _ 7 (by omega) (by omega) ?_ (fun i hi => absurd hi (Nat.not_lt_zero _))
    refine ⟨fun c hc => ?_, pk_us, pk_us, pk_us⟩
    show bt (upd cl 0 (U &&& (((1 : Int32) <<< (nI T &&& 31)) ^^^ (-1))) 0) c = _
    rw [pk_us, tb_clr _ (by omega) hc]
    simp
  · refine br_t ((tb_has0 _ (by omega)).mpr (by simpa using hb)) ?_
    exact H none aX pa cl nl rl pl (Or.inl ⟨rfl, fun k _ => tp_F_T hb k []⟩) (fun q hq => nomatch hq)
end
/-- the best path to T within the set U -/
def tp_B (D : tp_D) (U : Int32) (T : Nat) : Option (List Nat) := tp_best (tp_at T (tp_E D (bt U) 6 []))
/-- a path to T within U all of whose certificates have policy p -/
def tp_Q (D : tp_D) (U : Int32) (T p : Nat) : Bool := (tp_at T (tp_E D (bt U) 6 [])).any (fun q => bt (tp_P D 15 q) p)
/-- o stands on all paths to T within U -/
def tp_C (D : tp_D) (U : Int32) (T o : Nat) : Bool := (tp_at T (tp_E D (bt U) 6 [])).all (fun q => decide (o ∈ q.tail))
theorem tp_B_le (D : tp_D) (U : Int32) (T : Nat) : tp_ln (tp_B D U T) ≤ 6 := by
  unfold tp_B
  cases h : tp_best (tp_at T (tp_E D (bt U) 6 [])) with
  | none => exact Nat.zero_le _
  | some q => exact (tp_len_at (tp_best_mem _ _ h)).2
theorem tp_X_ln {D : tp_D} {u : Nat → Bool} {T : Nat} {w : Int32} {r : Option (List Nat)} (h : tp_X D u T w r) : tp_ln r ≤ 6 ∧ (tp_ln r = 0 ↔ r = none) := by
  rcases h with ⟨h1, h2⟩ | ⟨k, q, t, hk, h1, h2, h3⟩
  · rw [h1]
    exact ⟨Nat.zero_le _, fun _ => rfl, fun _ => rfl⟩
  · have hq : q.length = k + 1 := by
      have := tp_F_len D u T w k [] q (by rw [h2]; exact List.mem_cons_self)
      rw [List.length_nil] at this
      omega
    rw [h1]
    refine ⟨by rw [tp_ln]; omega, fun z => ?_, fun z => nomatch z⟩
    rw [tp_ln] at z
    omega
theorem tp_Q_X {D : tp_D} {U : Int32} {T p : Nat} {r : Option (List Nat)} (hT : T < tp_m D) (hp : p < 4) (h : tp_X D (bt U) T ((1 : Int32) <<< (nI p &&& 31)) r) : r = none ↔ ¬ tp_Q D U T p = true := by
  rw [tp_X_none hT (u := bt U) (fun c hc => hc) (tb_w15 p hp) h]
  unfold tp_Q
  rw [List.any_eq_true]
  constructor
  · intro g ⟨q, q1, q2⟩
    refine g q q1 (tp_g_iff.mpr ⟨?_, ?_⟩)
    · obtain ⟨x, s, e1, e2, e3, e4, e5, e6, e7, e8, e9, e10⟩ := tp_E_mem D (bt U) 6 [] q (tp_mem_at.mp q1).1
      intro y hy
      rw [e1] at hy
      rcases List.mem_cons.mp hy with hy | hy
      · rw [hy]; exact e6
      · exact e9 (fun y hy => absurd hy (List.not_mem_nil)) y hy
    · rw [tp_P_w D (tb_w15 p hp), tb_w _ (by omega), q2]
      intro z; cases z
  · intro g q q1 q2
    have h2 := (tp_g_iff.mp q2).2
    rw [tp_P_w D (tb_w15 p hp), tb_w _ (by omega)] at h2
    exact g ⟨q, q1, by simpa using h2⟩
theorem tp_C_X {D : tp_D} {U : Int32} {T o : Nat} {r : Option (List Nat)} (hT : T < tp_m D) (h12 : tp_m D ≤ 12) (ho : o < tp_m D) (hoT : ¬ o = T) (h : tp_X D (bt (U &&& (((1 : Int32) <<< (nI o &&& 31)) ^^^ (-1)))) T 15 r) : r = none ↔ tp_C D U T o = true := by
  have hu : ∀ c, bt (U &&& (((1 : Int32) <<< (nI o &&& 31)) ^^^ (-1))) c = true → bt U c = true := by
    intro c hc
    rw [b_and, Bool.and_eq_true] at hc
    exact hc.1
  rw [tp_X_none hT (u := bt U) hu (by decide) h]
  unfold tp_C
  rw [List.all_eq_true]
  constructor
  · intro g q q1
    obtain ⟨x, s, e1, e2, e3, e4, e5, e6, e7, e8, e9, e10⟩ := tp_E_mem D (bt U) 6 [] q (tp_mem_at.mp q1).1
    have hx : x = T := by
      have h3 := (tp_mem_at.mp q1).2
      rw [e1] at h3
      exact Option.some.inj h3
    apply decide_eq_true
    apply Classical.byContradiction
    intro hn
    refine g q q1 (tp_g_iff.mpr ⟨?_, e8⟩)
    intro y hy
    have hym : y < tp_m D ∧ bt U y = true := by
      rw [e1] at hy
      rcases List.mem_cons.mp hy with hy | hy
      · rw [hy]; exact ⟨e7, e6⟩
      · exact ⟨e10 (fun y hy => absurd hy (List.not_mem_nil)) y hy, e9 (fun y hy => absurd hy (List.not_mem_nil)) y hy⟩
    rw [tb_clr _ (by omega) (by omega), hym.2]
    have hyo : ¬ y = o := by
      intro z
      rw [e1] at hy hn
      rcases List.mem_cons.mp hy with hy | hy
      · exact hoT (z.symm.trans (hy.trans hx))
      · rw [z] at hy
        exact hn hy
    simp [hyo]
  · intro g q q1 q2
    have h3 := of_decide_eq_true (g q q1)
    obtain ⟨x, s, e1, e2, e3, e4, e5, e6, e7, e8, e9, e10⟩ := tp_E_mem D (bt U) 6 [] q (tp_mem_at.mp q1).1
    have h4 := (tp_g_iff.mp q2).1 o (by rw [e1] at h3 ⊢; exact List.mem_cons_of_mem _ h3)
    rw [tb_clr _ (by omega) (by omega)] at h4
    simp at h4
/-- good, not revoked, not held at t -/
def tx_ok (gf gt rv he : Nat → Int32) (t : Int32) (c : Nat) : Bool := !decide (t < gf c) && (!decide (gt c < t) && (!decide (rv c ≤ t) && decide (he c = 0)))
section
variable {D : tp_D} {u : Nat → Bool} {T : Nat} {w : Int32} {aX : Int32} {sf gf gt au li rv he aT aE pa cl nl rl pl : Nat → Int32}
theorem tx_us4 {post : Int32 → Prop} {t : Int32} (h12 : tp_m D ≤ 12) (h : post (tp_mk (tx_ok gf gt rv he t) (tp_m D))) : ∀ j c n, c + j = tp_m D → j < n → wX_usableAt_4 post t (nI (tp_m D)) aX (tp_ie D) (tp_se D) sf gf gt au li (tp_al D) (tp_ba D) (tp_po D) rv he aT aE pa cl nl rl pl n (tp_mk (tx_ok gf gt rv he t) c) (nI c) := by
  intro j
  induction j with
  | zero =>
    intro c n hj hn
    obtain ⟨n, rfl⟩ : ∃ k, n = k + 1 := ⟨n - 1, by omega⟩
    have e : c = tp_m D := by omega
    rw [e]
    exact br_t (nI_le (by omega) (by omega)) h
  | succ j ih =>
    intro c n hj hn
    obtain ⟨n, rfl⟩ : ∃ k, n = k + 1 := ⟨n - 1, by omega⟩
    have e2 : (nI c).toNatClampNeg = c := nI_clamp (by omega)
    have v : vp_in (nI c) 12 := vp_in_nI (by omega) (by omega)
    have hi := ih (c + 1) n (by omega) (by omega)
    rw [tp_mk] at hi
    have hno : ¬ tx_ok gf gt rv he t c = true → wX_usableAt_4 post t (nI (tp_m D)) aX (tp_ie D) (tp_se D) sf gf gt au li (tp_al D) (tp_ba D) (tp_po D) rv he aT aE pa cl nl rl pl n (tp_mk (tx_ok gf gt rv he t) c) (nI (c + 1)) := by
      intro z
      rw [if_neg z] at hi
      exact hi
    rw [wX_usableAt_4]
    dsimp only
    rw [e2]
    refine br_f (nI_ge (by omega) (by omega)) ⟨v, ?_⟩
    by_cases h1 : t < gf c
    · exact br_t h1 (nm_r (nI_1 c) (hno (by unfold tx_ok; rw [decide_eq_true h1]; simp)))
    refine br_f h1 ⟨v, ?_⟩
    by_cases h2 : gt c < t
    · exact br_t h2 (nm_r (nI_1 c) (hno (by unfold tx_ok; rw [decide_eq_true h2]; simp)))
    refine br_f h2 ⟨v, ?_⟩
    by_cases h3 : rv c ≤ t
    · exact br_t h3 (nm_r (nI_1 c) (hno (by unfold tx_ok; rw [decide_eq_true h3]; simp)))
    refine br_f h3 ⟨v, ?_⟩
    by_cases h4 : he c = 0
    · refine br_t h4 (nm_e (nm_r (nI_1 c) ?_))
      rw [if_pos (by unfold tx_ok; rw [decide_eq_false h1, decide_eq_false h2, decide_eq_false h3, decide_eq_true h4]; rfl)] at hi
      exact hi
    · exact br_f h4 (nm_r (nI_1 c) (hno (by unfold tx_ok; rw [decide_eq_false h4]; simp)))
theorem tx_us {post : Int32 → Prop} {t : Int32} (h12 : tp_m D ≤ 12) (h : post (tp_mk (tx_ok gf gt rv he t) (tp_m D))) : wpX_usableAt post ((nI (tp_m D)), aX, (tp_ie D), (tp_se D), sf, gf, gt, au, li, (tp_al D), (tp_ba D), (tp_po D), rv, he, aT, aE, pa, cl, nl, rl, pl) t :=
  ⟨tp_m D + 1, tx_us4 h12 h (tp_m D) 0 _ (by omega) (by omega)⟩
theorem tx_best15 {post : Int32 → SX → Prop} {U : Int32} (hS : tx_S D sf au li aT aE) (hT : T < tp_m D) (H : ∀ aX' pa' cl' nl' rl' pl', (∀ q, tp_B D U T = some q → tp_st pa' q) → post (nI (tp_ln (tp_B D U T))) ((nI (tp_m D)), aX', (tp_ie D), (tp_se D), sf, gf, gt, au, li, (tp_al D), (tp_ba D), (tp_po D), rv, he, aT, aE, pa', cl', nl', rl', pl')) : wpX_bestLength post ((nI (tp_m D)), aX, (tp_ie D), (tp_se D), sf, gf, gt, au, li, (tp_al D), (tp_ba D), (tp_po D), rv, he, aT, aE, pa, cl, nl, rl, pl) (nI T) U 15 := by
  refine tx_best hS hT (fun r aX' pa' cl' nl' rl' pl' hX hq => ?_)
  have e : r = tp_B D U T := tp_X_best hT hX
  rw [e] at hq ⊢
  exact H aX' pa' cl' nl' rl' pl' hq
theorem tx_bestQ {post : Int32 → SX → Prop} {U : Int32} {p : Nat} (hS : tx_S D sf au li aT aE) (hT : T < tp_m D) (hp : p < 4) (H : ∀ r aX' pa' cl' nl' rl' pl', r ≤ 6 → (r = 0 ↔ ¬ tp_Q D U T p = true) → post (nI r) ((nI (tp_m D)), aX', (tp_ie D), (tp_se D), sf, gf, gt, au, li, (tp_al D), (tp_ba D), (tp_po D), rv, he, aT, aE, pa', cl', nl', rl', pl')) : wpX_bestLength post ((nI (tp_m D)), aX, (tp_ie D), (tp_se D), sf, gf, gt, au, li, (tp_al D), (tp_ba D), (tp_po D), rv, he, aT, aE, pa, cl, nl, rl, pl) (nI T) U ((1 : Int32) <<< (nI p &&& 31)) := by
  refine tx_best hS hT (fun r aX' pa' cl' nl' rl' pl' hX hq => ?_)
  have h := tp_X_ln hX
  exact H (tp_ln r) aX' pa' cl' nl' rl' pl' h.1 (h.2.trans (tp_Q_X hT hp hX))
theorem tx_bestC {post : Int32 → SX → Prop} {U : Int32} {o : Nat} (hS : tx_S D sf au li aT aE) (hT : T < tp_m D) (ho : o < tp_m D) (hoT : ¬ o = T) (H : ∀ r aX' pa' cl' nl' rl' pl', r ≤ 6 → (r = 0 ↔ tp_C D U T o = true) → post (nI r) ((nI (tp_m D)), aX', (tp_ie D), (tp_se D), sf, gf, gt, au, li, (tp_al D), (tp_ba D), (tp_po D), rv, he, aT, aE, pa', cl', nl', rl', pl')) : wpX_bestLength post ((nI (tp_m D)), aX, (tp_ie D), (tp_se D), sf, gf, gt, au, li, (tp_al D), (tp_ba D), (tp_po D), rv, he, aT, aE, pa, cl, nl, rl, pl) (nI T) (U &&& (((1 : Int32) <<< (nI o &&& 31)) ^^^ (-1))) 15 := by
  refine tx_best hS hT (fun r aX' pa' cl' nl' rl' pl' hX hq => ?_)
  have h := tp_X_ln hX
  exact H (tp_ln r) aX' pa' cl' nl' rl' pl' h.1 (h.2.trans (tp_C_X hT hS.1 ho hoT hX))
end
