/-! the reference's small methods, at a node l of its search -/
theorem ty_5 (c : Nat) : (5 : Int32) * nI c = nI (5 * c) := pk_mul 5 c
theorem ty_5k (c k : Nat) {x : Int32} (hx : x = nI k) : (5 : Int32) * nI c + x = nI (5 * c + k) := by rw [ty_5, hx, nI_add]
theorem ty_6k (c k : Nat) : (6 : Int32) * nI c + nI k = nI (6 * c + k) := by
  have h : (6 : Int32) * nI c = nI (6 * c) := pk_mul 6 c
  rw [h, nI_add]
def ty_S (D : tp_D) (is su ik sk te an : Nat → Int32) : Prop :=
  tp_m D ≤ 12 ∧ (∀ c, c < tp_m D → ((10 : Int32) * is c + ik c = tp_ie D c ∧ (10 : Int32) * su c + sk c = tp_se D c ∧ tp_se D c / 10 = su c ∧ (is c = su c ↔ tp_sf D c = true) ∧ (te (5 * c) = 0 ↔ ¬ tp_au D c = true) ∧ te (5 * c + 1) = nI (tp_lm D c) ∧ tp_lm D c ≤ 4 ∧ te (5 * c + 2) = tp_al D c ∧ te (5 * c + 3) = tp_ba D c ∧ te (5 * c + 4) = tp_po D c ∧ (tp_an D c = true ↔ (tp_ie D c = an 0 ∨ tp_ie D c = an 1 ∨ tp_ie D c = an 2))))
section
variable {D : tp_D} {vY : Int32} {is su ik sk fr tt te re hY an le st fo co ls ne na pY ro : Nat → Int32} {l : List Nat} {c : Nat}
theorem ty_has {post : Int32 → Prop} {x y : Int32} (h1 : ((x >>> (y &&& 31)) &&& 1) = 1 → post 1) (h0 : ¬ ((x >>> (y &&& 31)) &&& 1) = 1 → post 0) : wpY_has post ((nI (tp_m D)), vY, is, su, ik, sk, fr, tt, te, re, hY, an, le, st, fo, co, ls, ne, na, pY, ro) x y := br_c h1 h0
theorem ty_follows {post : Int32 → Prop} (hS : ty_S D is su ik sk te an) (hl : l.length ≤ 5) (hc : c < tp_m D) (hst : tp_st ls l) (hm : ∀ y, y ∈ l → y < tp_m D) (h1 : tp_fo D l c = true → post 1) (h0 : ¬ tp_fo D l c = true → post 0) : wpY_follows post ((nI (tp_m D)), vY, is, su, ik, sk, fr, tt, te, re, hY, an, le, st, fo, co, ls, ne, na, pY, ro) (nI c) (nI l.length) := by
  have h12 := hS.1
  obtain ⟨k1, k2, k3, k4, k5, k6, k7, k8, k9, k10, k11⟩ := hS.2 c hc
  have e2 : (nI c).toNatClampNeg = c := nI_clamp (by omega)
  have v : vp_in (nI c) 12 := vp_in_nI (by omega) (by omega)
  unfold wpY_follows
  dsimp only
  rw [e2]
  refine ⟨v, v, nm_r k1 ?_⟩
  cases l with
  | nil =>
    refine br_t nI_0 ?_
    have e : tp_fo D [] c = tp_an D c := rfl
    rw [e, k11] at h1 h0
    by_cases g0 : tp_ie D c = an 0
    · exact br_t g0 (h1 (Or.inl g0))
    refine br_f g0 ?_
    by_cases g1 : tp_ie D c = an 1
    · exact br_t g1 (h1 (Or.inr (Or.inl g1)))
    refine br_f g1 ?_
    by_cases g2 : tp_ie D c = an 2
    · exact br_t g2 (h1 (Or.inr (Or.inr g2)))
    refine br_f g2 (h0 ?_)
    rintro (z | z | z)
    · exact g0 z
    · exact g1 z
    · exact g2 z
  | cons b l =>
    rw [List.length_cons] at hl
    have hb : b < tp_m D := hm b List.mem_cons_self
    obtain ⟨b1, b2, _⟩ := hS.2 b hb
    have e3 : (nI (b :: l).length - 1) = nI l.length := nI_pred l.length
    have e4 : (nI l.length).toNatClampNeg = l.length := nI_clamp (by omega)
    have e5 : (nI b).toNatClampNeg = b := nI_clamp (by omega)
    have vb : vp_in (nI b) 12 := vp_in_nI (by omega) (by omega)
    rw [e3, e4]
    refine br_f (nI_ne0 (n := l.length + 1) (by omega) (by omega)) ⟨vp_in_nI (by omega) (by omega), nm_r hst.1 ?_⟩
    rw [e5, b2]
    refine ⟨vb, vb, ?_⟩
    by_cases g : tp_ie D c = tp_se D b
    · exact br_t g (h1 (decide_eq_true g.symm))
    · exact br_f g (h0 (fun z => g (of_decide_eq_true z).symm))
theorem ty_used2 {post : Int32 → Prop} (hl : l.length ≤ 5) (hc : c < 12) (hst : tp_st ls l) (hm : ∀ y, y ∈ l → y < 12) (h1 : c ∈ l → post 1) (h0 : ¬ c ∈ l → post 0) : ∀ j i n, i + j = l.length → j < n → (∀ e, e < i → ¬ ls e = nI c) → wY_isUsed_2 post (nI c) (nI l.length) (nI (tp_m D)) vY is su ik sk fr tt te re hY an le st fo co ls ne na pY ro n (nI i) := by
  intro j
  induction j with
  | zero =>
    intro i n hj hn hi
    obtain ⟨n, rfl⟩ : ∃ k, n = k + 1 := ⟨n - 1, by omega⟩
    refine br_t (nI_le (by omega) (by omega)) (h0 (fun z => ?_))
    obtain ⟨e, he, he2⟩ := tp_st_mem l hst c z
    exact hi e (by omega) he2
  | succ j ih =>
    intro i n hj hn hi
    obtain ⟨n, rfl⟩ : ∃ k, n = k + 1 := ⟨n - 1, by omega⟩
    have e2 : (nI i).toNatClampNeg = i := nI_clamp (by omega)
    rw [wY_isUsed_2]
    dsimp only
    rw [e2]
    refine br_f (nI_ge (by omega) (by omega)) ⟨vp_in_nI (by omega) (by omega), ?_⟩
    by_cases g : ls i = nI c
    · refine br_t g (h1 ?_)
      obtain ⟨d, hd, hd2⟩ := tp_st_get l hst i (by omega)
      have hd3 := hm d hd
      rw [hd2, nI_eq (by omega) (by omega)] at g
      rw [← g]
      exact hd
    · refine br_f g (nm_r (nI_1 i) (ih (i + 1) n (by omega) (by omega) ?_))
      intro e he
      by_cases z : e = i
      · rw [z]; exact g
      · exact hi e (by omega)
theorem ty_used {post : Int32 → Prop} (hl : l.length ≤ 5) (hc : c < 12) (hst : tp_st ls l) (hm : ∀ y, y ∈ l → y < 12) (h1 : c ∈ l → post 1) (h0 : ¬ c ∈ l → post 0) : wpY_isUsed post ((nI (tp_m D)), vY, is, su, ik, sk, fr, tt, te, re, hY, an, le, st, fo, co, ls, ne, na, pY, ro) (nI c) (nI l.length) :=
  ⟨l.length + 1, ty_used2 hl hc hst hm h1 h0 l.length 0 _ (by omega) (by omega) (fun e he => absurd he (Nat.not_lt_zero _))⟩
end
/-! end: one event more -/
def ty_R (D : tp_D) (ev : List (List Nat)) (le st fo co : Nat → Int32) : Prop := ∀ T, T < 12 → tp_Z D ev le fo co st T
section
variable {D : tp_D} {vY : Int32} {is su ik sk fr tt te re hY an le fo co ls ne na pY ro : Nat → Int32} {l : List Nat} {c : Nat}
theorem ty_end150 {post : SY → Prop} {st0 : Nat → Int32} (hl : l.length ≤ 5) (hc : c < 12) (H : ∀ st, (∀ e, e < l.length → st (6 * c + e) = ls e) → st (6 * c + l.length) = nI c → (∀ x, (x < 6 * c ∨ 6 * c + 6 ≤ x) → st x = st0 x) → post ((nI (tp_m D)), vY, is, su, ik, sk, fr, tt, te, re, hY, an, le, st, fo, co, ls, ne, na, pY, ro)) : ∀ (j i : Nat) (st : Nat → Int32) (n : Nat), i + j = l.length → j < n → (∀ e, e < i → st (6 * c + e) = ls e) → (∀ x, (x < 6 * c ∨ 6 * c + 6 ≤ x) → st x = st0 x) → wY_end_150 post (nI c) (nI l.length) (nI (tp_m D)) vY n (nI i) is su ik sk fr tt te re hY an le st fo co ls ne na pY ro := by
  intro j
  induction j with
  | zero =>
    intro i st n hj hn h1 h2
    obtain ⟨n, rfl⟩ : ∃ k, n = k + 1 := ⟨n - 1, by omega⟩
    have e3 : (nI (6 * c + l.length)).toNatClampNeg = 6 * c + l.length := nI_clamp (by omega)
    rw [wY_end_150]
    dsimp only
    rw [ty_6k c l.length, e3]
    refine br_t (nI_le (by omega) (by omega)) ⟨vp_in_nI (by omega) (by omega), nm_e (H _ ?_ pk_us ?_)⟩
    · intro e he
      rw [pk_un (by omega)]
      exact h1 e (by omega)
    · intro x hx
      rw [pk_un (by omega)]
      exact h2 x hx
  | succ j ih =>
    intro i st n hj hn h1 h2
    obtain ⟨n, rfl⟩ : ∃ k, n = k + 1 := ⟨n - 1, by omega⟩
    have e2 : (nI i).toNatClampNeg = i := nI_clamp (by omega)
    have e3 : (nI (6 * c + i)).toNatClampNeg = 6 * c + i := nI_clamp (by omega)
    rw [wY_end_150]
    dsimp only
    rw [ty_6k c i, e2, e3]
    refine br_f (nI_ge (by omega) (by omega)) ⟨vp_in_nI (by omega) (by omega), vp_in_nI (by omega) (by omega), nm_e (nm_r (nI_1 i) (ih (i + 1) _ n (by omega) (by omega) ?_ ?_))⟩
    · intro e he
      by_cases z : e = i
      · rw [z]; exact pk_us
      · rw [pk_un (by omega)]
        exact h1 e (by omega)
    · intro x hx
      rw [pk_un (by omega)]
      exact h2 x hx
theorem ty_end102 {post : SY → Prop} {st : Nat → Int32} {ev : List (List Nat)} {ot z : Int32} (hl : l.length ≤ 5) (hc : c < 12) (hst : tp_st ls l) (hR : ty_R D ev le st fo co) (ho : ∀ o, o < 32 → (bt ot o = true ↔ o ∈ l)) (h4 : le c = 0 → z = ot) (h5 : ¬ le c = 0 → z = co c &&& ot) (H : ∀ le st fo co, ty_R D (ev ++ [c :: l]) le st fo co → post ((nI (tp_m D)), vY, is, su, ik, sk, fr, tt, te, re, hY, an, le, st, fo, co, ls, ne, na, pY, ro)) : wY_end_102 post (nI c) (nI l.length) (tp_P D 15 (c :: l)) z (nI c) (nI (tp_m D)) vY is su ik sk fr tt te re hY an le st fo co ls ne na pY ro := by
  have e2 : (nI c).toNatClampNeg = c := nI_clamp (by omega)
  have v : vp_in (nI c) 12 := vp_in_nI (by omega) (by omega)
  have key : ∀ le' st', ((le c = 0 ∨ nI (l.length + 1) < le c) → le' c = nI (l.length + 1) ∧ tp_st (fun i => st' (6 * c + i)) (c :: l)) → (¬ (le c = 0 ∨ nI (l.length + 1) < le c) → le' c = le c ∧ ∀ i, i < 6 → st' (6 * c + i) = st (6 * c + i)) → (∀ T, T ≠ c → le' T = le T) → (∀ x, (x < 6 * c ∨ 6 * c + 6 ≤ x) → st' x = st x) → ty_R D (ev ++ [c :: l]) le' st' (upd fo c (fo c ||| tp_P D 15 (c :: l))) (upd co c z) := by
    intro le' st' g1 g2 g3 g4 T hT
    by_cases e : T = c
    · subst e
      exact tp_Z_eq hl (hR T hT) ho g1 g2 pk_us (fun y => pk_us.trans (h4 y)) (fun y => pk_us.trans (h5 y))
    · exact tp_Z_ne e (tp_Z_congr (hR T hT) (g3 T e) (pk_un e) (pk_un e) (fun i hi => g4 _ (by omega)))
  have h138 : (le c = 0 ∨ nI (l.length + 1) < le c) → wY_end_138 post (nI c) (nI l.length) (nI (tp_m D)) vY is su ik sk fr tt te re hY an le st (upd fo c (fo c ||| tp_P D 15 (c :: l))) (upd co c z) ls ne na pY ro := by
    intro hle
    unfold wY_end_138
    rw [nI_1 l.length, e2]
    refine ⟨v, nm_e ⟨l.length + 1, ?_⟩⟩
    refine ty_end150 (st0 := st) hl hc (fun st' s1 s2 s3 => ?_) l.length 0 st _ (by omega) (by omega) (fun e he => absurd he (Nat.not_lt_zero _)) (fun x _ => rfl)
    refine H _ _ _ _ (key _ st' (fun _ => ⟨pk_us, s2, tp_st_congr l (fun i hi => s1 i hi) hst⟩) (fun y => absurd hle y) (fun T hT => pk_un hT) s3)
  have hpost : ¬ (le c = 0 ∨ nI (l.length + 1) < le c) → post ((nI (tp_m D)), vY, is, su, ik, sk, fr, tt, te, re, hY, an, le, st, upd fo c (fo c ||| tp_P D 15 (c :: l)), upd co c z, ls, ne, na, pY, ro) := by
    intro hle
    exact H _ _ _ _ (key le st (fun y => absurd y hle) (fun _ => ⟨rfl, fun i _ => rfl⟩) (fun T _ => rfl) (fun x _ => rfl))
  unfold wY_end_102
  rw [nI_1 l.length, e2]
  refine ⟨v, nm_e ⟨v, v, nm_e ⟨v, ?_⟩⟩⟩
  by_cases g : le c = 0
  · exact br_t g (h138 (Or.inl g))
  · refine br_f g ⟨v, ?_⟩
    by_cases g2 : le c ≤ nI (l.length + 1)
    · exact br_t g2 (hpost (fun y => y.elim g (fun y2 => Int32.not_lt.mpr g2 y2)))
    · exact br_f g2 (h138 (Or.inr (Int32.not_le.mp g2)))
theorem ty_end48 {post : SY → Prop} {st : Nat → Int32} {ev : List (List Nat)} (hl : l.length ≤ 5) (hc : c < 12) (hst : tp_st ls l) (hm : ∀ y, y ∈ l → y < 12) (hR : ty_R D ev le st fo co) (H : ∀ le st fo co, ty_R D (ev ++ [c :: l]) le st fo co → post ((nI (tp_m D)), vY, is, su, ik, sk, fr, tt, te, re, hY, an, le, st, fo, co, ls, ne, na, pY, ro)) : ∀ (j i : Nat) (x : Int32) (n : Nat), i + j = l.length → j < n → (∀ o, o < 32 → (bt x o = true ↔ ∃ e, e < i ∧ ls e = nI o)) → wY_end_48 post (nI c) (nI l.length) (tp_P D 15 (c :: l)) (nI (tp_m D)) vY is su ik sk fr tt te re hY an le st fo co ls ne na pY ro n x (nI i) := by
  have e2 : (nI c).toNatClampNeg = c := nI_clamp (by omega)
  have v : vp_in (nI c) 12 := vp_in_nI (by omega) (by omega)
  intro j
  induction j with
  | zero =>
    intro i x n hj hn hx
    obtain ⟨n, rfl⟩ : ∃ k, n = k + 1 := ⟨n - 1, by omega⟩
    have ho : ∀ o, o < 32 → (bt x o = true ↔ o ∈ l) := by
      intro o h32
      rw [hx o h32]
      constructor
      · rintro ⟨e, e1, e3⟩
        obtain ⟨d, d1, d2⟩ := tp_st_get l hst e (by omega)
        have := hm d d1
        rw [d2, nI_eq (by omega) (by omega)] at e3
        rw [← e3]
        exact d1
      · intro g
        obtain ⟨e, e1, e3⟩ := tp_st_mem l hst o g
        exact ⟨e, by omega, e3⟩
    rw [wY_end_48]
    dsimp only
    rw [e2]
    refine br_t (nI_le (by omega) (by omega)) ⟨v, ?_⟩
    by_cases g : le c = 0
    · exact br_t g (ty_end102 hl hc hst hR ho (fun _ => rfl) (fun y => absurd g y) H)
    · exact br_f g ⟨v, ty_end102 hl hc hst hR ho (fun y => absurd y g) (fun _ => rfl) H⟩
  | succ j ih =>
    intro i x n hj hn hx
    obtain ⟨n, rfl⟩ : ∃ k, n = k + 1 := ⟨n - 1, by omega⟩
    have e4 : (nI i).toNatClampNeg = i := nI_clamp (by omega)
    obtain ⟨d, d1, d2⟩ := tp_st_get l hst i (by omega)
    have hd := hm d d1
    rw [wY_end_48]
    dsimp only
    rw [e4, d2]
    refine br_f (nI_ge (by omega) (by omega)) ⟨vp_in_nI (by omega) (by omega), nm_e (nm_r (nI_1 i) (ih (i + 1) _ n (by omega) (by omega) ?_))⟩
    intro o h32
    rw [tb_set _ (by omega) h32, Bool.or_eq_true, hx o h32, decide_eq_true_eq]
    constructor
    · rintro (⟨e, e1, e3⟩ | g)
      · exact ⟨e, by omega, e3⟩
      · exact ⟨i, by omega, by rw [d2, g]⟩
    · rintro ⟨e, e1, e3⟩
      by_cases z : e = i
      · rw [z, d2, nI_eq (by omega) (by omega)] at e3
        exact Or.inr e3.symm
      · exact Or.inl ⟨e, by omega, e3⟩
theorem ty_end {post : SY → Prop} {st : Nat → Int32} {ev : List (List Nat)} (hS : ty_S D is su ik sk te an) (hl : l.length ≤ 5) (hc : c < tp_m D) (hst : tp_st ls l) (hm : ∀ y, y ∈ l → y < tp_m D) (hly : tp_ly D na pY ro l) (hR : ty_R D ev le st fo co) (H : ¬ tp_P D 15 l &&& tp_po D c = 0 → tp_nm D l c = true → ∀ le st fo co, ty_R D (ev ++ [c :: l]) le st fo co → post ((nI (tp_m D)), vY, is, su, ik, sk, fr, tt, te, re, hY, an, le, st, fo, co, ls, ne, na, pY, ro)) (H0 : ¬ ((¬ tp_P D 15 l &&& tp_po D c = 0) ∧ tp_nm D l c = true) → post ((nI (tp_m D)), vY, is, su, ik, sk, fr, tt, te, re, hY, an, le, st, fo, co, ls, ne, na, pY, ro)) : wpY_end post ((nI (tp_m D)), vY, is, su, ik, sk, fr, tt, te, re, hY, an, le, st, fo, co, ls, ne, na, pY, ro) (nI c) (nI l.length) := by
  have h12 := hS.1
  obtain ⟨k1, k2, k3, k4, k5, k6, k7, k8, k9, k10, k11⟩ := hS.2 c hc
  have e1 : (nI l.length).toNatClampNeg = l.length := nI_clamp (by omega)
  have e2 : (nI c).toNatClampNeg = c := nI_clamp (by omega)
  have e3 : (nI (5 * c + 4)).toNatClampNeg = 5 * c + 4 := nI_clamp (by omega)
  have v1 : vp_in (nI l.length) 7 := vp_in_nI (by omega) (by omega)
  unfold wpY_end
  dsimp only
  rw [ty_5k c 4 (x := 4) rfl, e1, e2, e3, k10, hly.2.1, hly.1]
  refine ⟨v1, vp_in_nI (by omega) (by omega), nm_e ?_⟩
  by_cases hp : tp_P D 15 l &&& tp_po D c = 0
  · exact br_t hp (H0 (fun g => g.1 hp))
  refine br_f hp ⟨v1, vp_in_nI (by omega) (by omega), ?_⟩
  refine ty_has (fun g => ?_) (fun g => ?_)
  · rw [← k3] at g
    refine br_f (by decide) ⟨l.length + 1, ?_⟩
    refine ty_end48 hl (by omega) hst (fun y hy => Nat.lt_of_lt_of_le (hm y hy) h12) hR (H hp (decide_eq_true g)) l.length 0 0 _ (by omega) (by omega) ?_
    intro o _
    rw [b_0]
    constructor
    · intro z; cases z
    · rintro ⟨e, he, _⟩; omega
  · rw [← k3] at g
    exact br_t rfl (H0 (fun z => g (of_decide_eq_true z.2)))
end
