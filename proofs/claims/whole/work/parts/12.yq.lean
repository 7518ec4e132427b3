/-! the loops of the reference's questions -/
section
variable {D : tp_D} {vY : Int32} {is su ik sk fr tt te re hY an le st fo co ls ne na pY ro : Nat → Int32}
theorem ty_va4 {post : Int32 → Prop} {t : Int32} (h12 : tp_m D ≤ 12) (h : post (tp_mk (tx_ok fr tt re hY t) (tp_m D))) : ∀ j c n, c + j = tp_m D → j < n → wY_validAt_4 post t (nI (tp_m D)) vY is su ik sk fr tt te re hY an le st fo co ls ne na pY ro n (tp_mk (tx_ok fr tt re hY t) c) (nI c) := by
  intro j
  induction j with
  | zero =>
    intro c n hj hn
    obtain ⟨n, rfl⟩ : ∃ k, n = k + 1 := ⟨n - 1, by omega⟩
    have e : c = tp_m D := by omega
    rw [e]
    exact br_t (nI_le (by omega) (by omega)) h
  | succ j ih =>
    intro c n hj hn
    obtain ⟨n, rfl⟩ : ∃ k, n = k + 1 := ⟨n - 1, by omega⟩
    have e2 : (nI c).toNatClampNeg = c := nI_clamp (by omega)
    have v : vp_in (nI c) 12 := vp_in_nI (by omega) (by omega)
    have hi := ih (c + 1) n (by omega) (by omega)
    rw [tp_mk] at hi
    have hno : ¬ tx_ok fr tt re hY t c = true → wY_validAt_4 post t (nI (tp_m D)) vY is su ik sk fr tt te re hY an le st fo co ls ne na pY ro n (tp_mk (tx_ok fr tt re hY t) c) (nI (c + 1)) := by
      intro z
      rw [if_neg z] at hi
      exact hi
    rw [wY_validAt_4]
    dsimp only
    rw [e2]
    refine br_f (nI_ge (by omega) (by omega)) ⟨v, ?_⟩
    by_cases h1 : t < fr c
    · exact br_t h1 (nm_r (nI_1 c) (hno (by unfold tx_ok; rw [decide_eq_true h1]; simp)))
    refine br_f h1 ⟨v, ?_⟩
    by_cases h2 : tt c < t
    · exact br_t h2 (nm_r (nI_1 c) (hno (by unfold tx_ok; rw [decide_eq_true h2]; simp)))
    refine br_f h2 ⟨v, ?_⟩
    by_cases h3 : re c ≤ t
    · exact br_t h3 (nm_r (nI_1 c) (hno (by unfold tx_ok; rw [decide_eq_true h3]; simp)))
    refine br_f h3 ⟨v, ?_⟩
    by_cases h4 : hY c = 0
    · refine br_t h4 (nm_e (nm_r (nI_1 c) ?_))
      rw [if_pos (by unfold tx_ok; rw [decide_eq_false h1, decide_eq_false h2, decide_eq_false h3, decide_eq_true h4]; rfl)] at hi
      exact hi
    · exact br_f h4 (nm_r (nI_1 c) (hno (by unfold tx_ok; rw [decide_eq_false h4]; simp)))
theorem ty_va {post : Int32 → Prop} {t : Int32} (h12 : tp_m D ≤ 12) (h : post (tp_mk (tx_ok fr tt re hY t) (tp_m D))) : wpY_validAt post ((nI (tp_m D)), vY, is, su, ik, sk, fr, tt, te, re, hY, an, le, st, fo, co, ls, ne, na, pY, ro) t :=
  ⟨tp_m D + 1, ty_va4 h12 h (tp_m D) 0 _ (by omega) (by omega)⟩
theorem ty_Q {U : Int32} {c p : Nat} (hR : ty_R D (tp_E D (bt U) 6 []) le st fo co) (hc : c < 12) (hp : p < 32) : bt (fo c) p = true ↔ tp_Q D U c p = true := by
  rw [(hR c hc).2.2.1 p hp]
  unfold tp_Q
  rw [List.any_eq_true]
theorem ty_C {U : Int32} {c o : Nat} (hR : ty_R D (tp_E D (bt U) 6 []) le st fo co) (hc : c < 12) (ho : o < 32) (hl : 0 < tp_ln (tp_B D U c)) : bt (co c) o = true ↔ tp_C D U c o = true := by
  have hne : tp_at c (tp_E D (bt U) 6 []) ≠ [] := by
    intro z
    unfold tp_B at hl
    rw [z] at hl
    exact absurd hl (Nat.lt_irrefl 0)
  rw [(hR c hc).2.2.2.1 o ho hne]
  unfold tp_C
  rw [List.all_eq_true]
  constructor
  · intro g p hp
    exact decide_eq_true (g p hp)
  · intro g p hp
    exact of_decide_eq_true (g p hp)
theorem ty_le {U : Int32} {c : Nat} (hR : ty_R D (tp_E D (bt U) 6 []) le st fo co) (hc : c < 12) : le c = nI (tp_ln (tp_B D U c)) := (hR c hc).1
theorem ty_pol {U : Int32} {c : Nat} (hR : ty_R D (tp_E D (bt U) 6 []) le st fo co) (hc : c < 12) : fo c = tp_mk (tp_Q D U c) 4 := by
  apply b_ext
  intro i hi
  rw [tp_mk_bit _ hi 4 (by omega)]
  have h := ty_Q hR hc hi
  by_cases h4 : i < 4
  · rw [decide_eq_true h4, Bool.true_and]
    cases hq : tp_Q D U c i with
    | true => exact h.mpr hq
    | false =>
      cases hf : bt (fo c) i with
      | false => rfl
      | true =>
        have := h.mp hf
        rw [hq] at this
        cases this
  · rw [decide_eq_false h4, Bool.false_and]
    cases hf : bt (fo c) i with
    | false => rfl
    | true =>
      exfalso
      obtain ⟨p, p1, p2⟩ := ((hR c hc).2.2.1 i hi).mp hf
      have h15 := tp_P_bit D 15 i p p2
      rw [tb_15 i hi, decide_eq_false h4] at h15
      cases h15
theorem ty_count4 {post : Int32 → Prop} {U : Int32} (h12 : tp_m D ≤ 12) (hR : ty_R D (tp_E D (bt U) 6 []) le st fo co) (H : post (nI (tp_cn (tp_tr D U) (tp_m D)))) : ∀ (j c : Nat) (n : Nat), c + j = tp_m D → j < n → wY_countFound_4 post (nI (tp_m D)) vY is su ik sk fr tt te re hY an le st fo co ls ne na pY ro n (nI (tp_cn (tp_tr D U) c)) (nI c) := by
  intro j
  induction j with
  | zero =>
    intro c n hj hn
    obtain ⟨n, rfl⟩ : ∃ k, n = k + 1 := ⟨n - 1, by omega⟩
    have e : c = tp_m D := by omega
    rw [e]
    exact br_t (nI_le (by omega) (by omega)) H
  | succ j ih =>
    intro c n hj hn
    obtain ⟨n, rfl⟩ : ∃ k, n = k + 1 := ⟨n - 1, by omega⟩
    have e2 : (nI c).toNatClampNeg = c := nI_clamp (by omega)
    rw [wY_countFound_4]
    dsimp only
    rw [e2, ty_le hR (by omega)]
    refine br_f (nI_ge (by omega) (by omega)) ⟨vp_in_nI (by omega) (by omega), ?_⟩
    have hi := ih (c + 1) n (by omega) (by omega)
    have h6 := tp_B_le D U c
    rw [tp_cn] at hi
    by_cases h0 : 0 < tp_ln (tp_B D U c)
    · have ht : tp_tr D U c = true := decide_eq_true h0
      rw [if_pos ht] at hi
      exact br_f (nI_nle h0 (by omega)) (nm_r (nI_1 _) (nm_r (nI_1 c) hi))
    · have ht : ¬ tp_tr D U c = true := fun z => h0 (of_decide_eq_true z)
      rw [if_neg ht] at hi
      exact br_t (nI_le (b := 0) (by omega) (by omega)) (nm_r (nI_1 c) hi)
theorem ty_count {post : Int32 → Prop} {U : Int32} (h12 : tp_m D ≤ 12) (hR : ty_R D (tp_E D (bt U) 6 []) le st fo co) (H : post (nI (tp_cn (tp_tr D U) (tp_m D)))) : wpY_countFound post ((nI (tp_m D)), vY, is, su, ik, sk, fr, tt, te, re, hY, an, le, st, fo, co, ls, ne, na, pY, ro) :=
  ⟨tp_m D + 1, ty_count4 h12 hR H (tp_m D) 0 _ (by omega) (by omega)⟩
theorem ty_keys44 {post : Int32 → SY → Prop} {U v : Int32} {p : Nat} (hS : ty_S D is su ik sk te an) (hk : ∀ c, c < tp_m D → sk c = tp_kx D c) (hp : p < 4) (hR : ty_R D (tp_E D (bt U) 6 []) le st fo co) (H : post (tp_ks (tp_kf D U v p) (tp_kx D) (tp_m D)) ((nI (tp_m D)), vY, is, su, ik, sk, fr, tt, te, re, hY, an, le, st, fo, co, ls, ne, na, pY, ro)) : ∀ (j c : Nat) (n : Nat), c + j = tp_m D → j < n → wY_keysOf_44 post v (nI p) (nI (tp_m D)) vY is su ik sk fr tt te re hY an le st fo co ls ne na pY ro n (tp_ks (tp_kf D U v p) (tp_kx D) c) (nI c) := by
  have h12 := hS.1
  intro j
  induction j with
  | zero =>
    intro c n hj hn
    obtain ⟨n, rfl⟩ : ∃ k, n = k + 1 := ⟨n - 1, by omega⟩
    have e : c = tp_m D := by omega
    rw [e]
    exact br_t (nI_le (by omega) (by omega)) H
  | succ j ih =>
    intro c n hj hn
    obtain ⟨n, rfl⟩ : ∃ k, n = k + 1 := ⟨n - 1, by omega⟩
    have e2 : (nI c).toNatClampNeg = c := nI_clamp (by omega)
    have vv : vp_in (nI c) 12 := vp_in_nI (by omega) (by omega)
    obtain ⟨k1, k2, k3, _⟩ := hS.2 c (by omega)
    have hi := ih (c + 1) n (by omega) (by omega)
    rw [tp_ks] at hi
    rw [wY_keysOf_44]
    dsimp only
    rw [e2, ← k3, hk c (by omega)]
    refine br_f (nI_ge (by omega) (by omega)) ⟨vv, ?_⟩
    by_cases hv : tp_se D c / 10 = v
    · refine br_t hv ⟨vv, ?_⟩
      refine ty_has (fun g => ?_) (fun g => ?_)
      · have h0 := (ty_Q hR (by omega) (by omega)).mp ((tb_has _ (by omega)).mp g)
        rw [if_pos (by unfold tp_kf; rw [decide_eq_true hv, h0]; rfl)] at hi
        exact br_f (by decide) ⟨vv, nm_e (nm_r (nI_1 c) hi)⟩
      · rw [if_neg (by unfold tp_kf; rw [Bool.and_eq_true]; exact fun z => g ((tb_has _ (by omega)).mpr ((ty_Q hR (by omega) (by omega)).mpr z.2)))] at hi
        exact br_t rfl (nm_r (nI_1 c) hi)
    · rw [if_neg (by unfold tp_kf; rw [Bool.and_eq_true]; exact fun z => hv (of_decide_eq_true z.1))] at hi
      exact br_f hv (nm_r (nI_1 c) hi)
theorem ty_narrow0 {post : Int32 → SY → Prop} {U : Int32} {T : Nat} (h12 : tp_m D ≤ 12) (hT : T < tp_m D) (hR : ty_R D (tp_E D (bt U) 6 []) le st fo co) (h0 : tp_ln (tp_B D U T) = 0) (H : post (-2) ((nI (tp_m D)), vY, is, su, ik, sk, fr, tt, te, re, hY, an, le, st, fo, co, ls, ne, na, pY, ro)) : ∀ (j c : Nat) (n : Nat), c + j = tp_m D → j < n → wY_narrow_22 post (nI T) (nI (tp_m D)) vY is su ik sk fr tt te re hY an le st fo co ls ne na pY ro n (nI c) := by
  intro j
  induction j with
  | zero =>
    intro c n hj hn
    obtain ⟨n, rfl⟩ : ∃ k, n = k + 1 := ⟨n - 1, by omega⟩
    exact br_t (nI_le (by omega) (by omega)) H
  | succ j ih =>
    intro c n hj hn
    obtain ⟨n, rfl⟩ : ∃ k, n = k + 1 := ⟨n - 1, by omega⟩
    have e2 : (nI T).toNatClampNeg = T := nI_clamp (by omega)
    rw [wY_narrow_22]
    dsimp only
    rw [e2, ty_le hR (by omega), h0]
    refine br_f (nI_ge (by omega) (by omega)) ⟨vp_in_nI (by omega) (by omega), br_t (nI_le (b := 0) (by omega) (by omega)) (nm_r (nI_1 c) (ih (c + 1) n (by omega) (by omega)))⟩
theorem ty_narrow22 {post : Int32 → SY → Prop} {U : Int32} {T : Nat} (h12 : tp_m D ≤ 12) (hT : T < tp_m D) (hR : ty_R D (tp_E D (bt U) 6 []) le st fo co) (h0 : 0 < tp_ln (tp_B D U T)) : ∀ (j c : Nat) (n : Nat), c + j = tp_m D → j < n → post (tp_fs (tp_nf D U T) j c) ((nI (tp_m D)), vY, is, su, ik, sk, fr, tt, te, re, hY, an, le, st, fo, co, ls, ne, na, pY, ro) → wY_narrow_22 post (nI T) (nI (tp_m D)) vY is su ik sk fr tt te re hY an le st fo co ls ne na pY ro n (nI c) := by
  have h6 := tp_B_le D U T
  intro j
  induction j with
  | zero =>
    intro c n hj hn H
    obtain ⟨n, rfl⟩ : ∃ k, n = k + 1 := ⟨n - 1, by omega⟩
    exact br_t (nI_le (by omega) (by omega)) H
  | succ j ih =>
    intro c n hj hn H
    obtain ⟨n, rfl⟩ : ∃ k, n = k + 1 := ⟨n - 1, by omega⟩
    have e2 : (nI T).toNatClampNeg = T := nI_clamp (by omega)
    have vv : vp_in (nI T) 12 := vp_in_nI (by omega) (by omega)
    rw [wY_narrow_22]
    dsimp only
    rw [e2, ty_le hR (by omega)]
    refine br_f (nI_ge (by omega) (by omega)) ⟨vv, br_f (nI_nle h0 (by omega)) ?_⟩
    rw [tp_fs] at H
    by_cases hc : c = T
    · rw [if_neg (by unfold tp_nf; rw [decide_eq_true hc]; simp)] at H
      exact br_t (by rw [hc]) (nm_r (nI_1 c) (ih (c + 1) n (by omega) (by omega) H))
    · refine br_f (fun z => hc ((nI_eq (by omega) (by omega)).mp z)) ⟨vv, ?_⟩
      refine ty_has (fun g => ?_) (fun g => ?_)
      · have hC := (ty_C hR (by omega) (by omega) h0).mp ((tb_has _ (by omega)).mp g)
        rw [if_pos (by unfold tp_nf; rw [decide_eq_false hc, hC]; rfl)] at H
        exact br_f (by decide) H
      · rw [if_neg (by unfold tp_nf; rw [Bool.and_eq_true]; exact fun z => g ((tb_has _ (by omega)).mpr ((ty_C hR (by omega) (by omega) h0).mpr z.2)))] at H
        exact br_t rfl (nm_r (nI_1 c) (ih (c + 1) n (by omega) (by omega) H))
end
theorem tp_mk_m1 (f : Nat → Bool) {n : Nat} (hn : n ≤ 12) : ¬ tp_mk f n = -1 := by
  intro z
  have h := tp_mk_bit f (i := 31) (by omega) n (by omega)
  rw [z, b_m1 31 (by omega), decide_eq_false (by omega), Bool.false_and] at h
  cases h
section
variable {D : tp_D} {is su ik sk fr tt te re hY an : Nat → Int32}
theorem ty_until48 {post : Int32 → SY → Prop} {J : Int32 → Int32 → Int32 → Int32 → Int32 → (Nat → Int32) → (Nat → Int32) → (Nat → Int32) → (Nat → Int32) → (Nat → Int32) → (Nat → Int32) → (Nat → Int32) → (Nat → Int32) → (Nat → Int32) → (Nat → Int32) → (Nat → Int32) → (Nat → Int32) → (Nat → Int32) → (Nat → Int32) → (Nat → Int32) → (Nat → Int32) → (Nat → Int32) → (Nat → Int32) → (Nat → Int32) → Prop} {U vY r : Int32} {T t : Nat} {le st fo co ls ne na pY ro : Nat → Int32} (hT : T < 12) (hR : ty_R D (tp_E D (bt U) 6 []) le st fo co) (h1 : tp_ln (tp_B D U T) = 0 → post r ((nI (tp_m D)), vY, is, su, ik, sk, fr, tt, te, re, hY, an, le, st, fo, co, ls, ne, na, pY, ro)) (h2 : ¬ tp_ln (tp_B D U T) = 0 → J (nI t) U (nI (t + 1)) (nI (tp_m D)) vY is su ik sk fr tt te re hY an le st fo co ls ne na pY ro) : wY_until_48 post J (nI T) r (nI t) U (nI (tp_m D)) vY is su ik sk fr tt te re hY an le st fo co ls ne na pY ro := by
  have e2 : (nI T).toNatClampNeg = T := nI_clamp (by omega)
  have h6 := tp_B_le D U T
  unfold wY_until_48
  rw [e2, ty_le hR hT]
  refine ⟨vp_in_nI (by omega) (by omega), ?_⟩
  by_cases h0 : tp_ln (tp_B D U T) = 0
  · exact br_t (by rw [h0]; rfl) (h1 h0)
  · exact br_f (nI_ne0 (by omega) (by omega)) (nm_r (nI_1 t) (h2 h0))
theorem ty_until20 {post : Int32 → SY → Prop} {T : Nat} {V : Nat → Int32} (hS : ty_S D is su ik sk te an) (hT : T < tp_m D) (hV : ∀ t, t ≤ 100 → V t = tp_mk (tx_ok fr tt re hY (nI t)) (tp_m D)) : ∀ (j t : Nat) (r b vY : Int32) (le st fo co ls ne na pY ro : Nat → Int32) (n : Nat), t + j = 101 → j < n → (b = -1 ∨ ty_R D (tp_E D (bt b) 6 []) le st fo co) → (∀ vY le st fo co ls ne na pY ro, post (tp_un (tp_ug D V T) j t r) ((nI (tp_m D)), vY, is, su, ik, sk, fr, tt, te, re, hY, an, le, st, fo, co, ls, ne, na, pY, ro)) → wY_until_20 post (nI T) n r b (nI t) (nI (tp_m D)) vY is su ik sk fr tt te re hY an le st fo co ls ne na pY ro := by
  have h12 := hS.1
  intro j
  induction j with
  | zero =>
    intro t r b vY le st fo co ls ne na pY ro n hj hn hb H
    obtain ⟨n, rfl⟩ : ∃ k, n = k + 1 := ⟨n - 1, by omega⟩
    exact br_t (nI_le (a := 101) (by omega) (by omega)) (H vY le st fo co ls ne na pY ro)
  | succ j ih =>
    intro t r b vY le st fo co ls ne na pY ro n hj hn hb H
    obtain ⟨n, rfl⟩ : ∃ k, n = k + 1 := ⟨n - 1, by omega⟩
    have h48 : ∀ (vY : Int32) (le st fo co ls ne na pY ro : Nat → Int32), ty_R D (tp_E D (bt (V t)) 6 []) le st fo co → wY_until_48 post (wY_until_20 post (nI T) n) (nI T) r (nI t) (V t) (nI (tp_m D)) vY is su ik sk fr tt te re hY an le st fo co ls ne na pY ro := by
      intro vY le st fo co ls ne na pY ro hR
      refine ty_until48 (by omega) hR (fun h0 => ?_) (fun h0 => ?_)
      · have ht : tp_ug D V T t = true := decide_eq_true h0
        rw [tp_un, if_pos ht] at H
        exact H vY le st fo co ls ne na pY ro
      · have ht : ¬ tp_ug D V T t = true := fun z => h0 (of_decide_eq_true z)
        rw [tp_un, if_neg ht] at H
        exact ih (t + 1) (nI t) (V t) vY le st fo co ls ne na pY ro n (by omega) (by omega) (Or.inr hR) H
    rw [wY_until_20]
    dsimp only
    refine br_f (nI_ge (b := 101) (by omega) (by omega)) (ty_va h12 ?_)
    rw [← hV t (by omega)]
    by_cases e : V t = b
    · refine br_t e (h48 vY le st fo co ls ne na pY ro ?_)
      rcases hb with hb | hb
      · exfalso
        rw [hb, hV t (by omega)] at e
        exact tp_mk_m1 _ h12 e
      · rw [e]; exact hb
    · exact br_f e (ty_search hS (fun le st fo co ls ne na pY ro hR => h48 (V t) le st fo co ls ne na pY ro hR))
end
