/-! the tests of arguments -/
theorem vq_cert (x : Int32) {m : Nat} (hm : m ≤ 12) : (x < 0 ∨ nI m ≤ x) ∨ ∃ c, c < m ∧ x = nI c := by
  rcases pk_ix x (n := m) (by omega) with h | h | h
  · exact Or.inl (Or.inl h)
  · exact Or.inl (Or.inr h)
  · exact Or.inr h
theorem vq_time (x : Int32) : (x < 0 ∨ nI 101 ≤ x) ∨ ∃ t, t ≤ 100 ∧ x = nI t := by
  rcases pk_ix x (n := 101) (by omega) with h | h | ⟨t, h, e⟩
  · exact Or.inl (Or.inl h)
  · exact Or.inl (Or.inr h)
  · exact Or.inr ⟨t, by omega, e⟩
theorem vq_100 {x : Int32} (h : nI 101 ≤ x) : (100 : Int32) < x := Int32.lt_of_lt_of_le (by decide) h
section
variable {m : Nat} {aX vY : Int32} {ie se sf gf gt au li al ba po rv he aT aE pa cl nl rl pl : Nat → Int32} {is su ik sk fr tt te re hY an le st fo co ls ne na pY ro : Nat → Int32}
theorem tx_isC0 {post : Int32 → Prop} {x : Int32} (hb : x < 0 ∨ nI m ≤ x) (h : post 0) : wpX_isCertificate post ((nI m), aX, ie, se, sf, gf, gt, au, li, al, ba, po, rv, he, aT, aE, pa, cl, nl, rl, pl) x := by
  by_cases z : x < 0
  · exact br_t z h
  · exact br_f z (br_t (hb.resolve_left z) h)
theorem tx_isC1 {post : Int32 → Prop} {c : Nat} (h12 : m ≤ 12) (hc : c < m) (h : post 1) : wpX_isCertificate post ((nI m), aX, ie, se, sf, gf, gt, au, li, al, ba, po, rv, he, aT, aE, pa, cl, nl, rl, pl) (nI c) :=
  br_f (nI_pos (by omega)) (br_f (nI_ge hc (by omega)) h)
theorem tx_isT0 {post : Int32 → Prop} {x : Int32} (hb : x < 0 ∨ nI 101 ≤ x) (h : post 0) : wpX_isTime post ((nI m), aX, ie, se, sf, gf, gt, au, li, al, ba, po, rv, he, aT, aE, pa, cl, nl, rl, pl) x := by
  by_cases z : x < 0
  · exact br_t z h
  · exact br_f z (br_t (vq_100 (hb.resolve_left z)) h)
theorem tx_isT1 {post : Int32 → Prop} {t : Nat} (ht : t ≤ 100) (h : post 1) : wpX_isTime post ((nI m), aX, ie, se, sf, gf, gt, au, li, al, ba, po, rv, he, aT, aE, pa, cl, nl, rl, pl) (nI t) :=
  br_f (nI_pos (by omega)) (br_f (nI_nlt (a := 100) ht (by omega)) h)
theorem tx_isA0 {post : Int32 → Prop} {x : Int32} (hb : x < 0 ∨ nI 3 ≤ x) (h : post 0) : wpX_isAnchor post ((nI m), aX, ie, se, sf, gf, gt, au, li, al, ba, po, rv, he, aT, aE, pa, cl, nl, rl, pl) x := by
  by_cases z : x < 0
  · exact br_t z h
  · exact br_f z (br_t (hb.resolve_left z) h)
theorem tx_isA1 {post : Int32 → Prop} {a : Nat} (ha : a < 3) (h : post 1) : wpX_isAnchor post ((nI m), aX, ie, se, sf, gf, gt, au, li, al, ba, po, rv, he, aT, aE, pa, cl, nl, rl, pl) (nI a) :=
  br_f (nI_pos (by omega)) (br_f (nI_ge (b := 3) ha (by omega)) h)
theorem ty_bC0 {post : Int32 → Prop} {x : Int32} (hb : x < 0 ∨ nI m ≤ x) (h : post 1) : wpY_badCertificate post ((nI m), vY, is, su, ik, sk, fr, tt, te, re, hY, an, le, st, fo, co, ls, ne, na, pY, ro) x := by
  by_cases z : x < 0
  · exact br_t z h
  · exact br_f z (br_f (Int32.not_lt.mpr (hb.resolve_left z)) h)
theorem ty_bC1 {post : Int32 → Prop} {c : Nat} (h12 : m ≤ 12) (hc : c < m) (h : post 0) : wpY_badCertificate post ((nI m), vY, is, su, ik, sk, fr, tt, te, re, hY, an, le, st, fo, co, ls, ne, na, pY, ro) (nI c) :=
  br_f (nI_pos (by omega)) (br_t (nI_lt hc (by omega)) h)
theorem ty_bT0 {post : Int32 → Prop} {x : Int32} (hb : x < 0 ∨ nI 101 ≤ x) (h : post 1) : wpY_badTime post ((nI m), vY, is, su, ik, sk, fr, tt, te, re, hY, an, le, st, fo, co, ls, ne, na, pY, ro) x := by
  by_cases z : x < 0
  · exact br_t z h
  · exact br_f z (br_f (Int32.not_le.mpr (vq_100 (hb.resolve_left z))) h)
theorem ty_bT1 {post : Int32 → Prop} {t : Nat} (ht : t ≤ 100) (h : post 0) : wpY_badTime post ((nI m), vY, is, su, ik, sk, fr, tt, te, re, hY, an, le, st, fo, co, ls, ne, na, pY, ro) (nI t) :=
  br_f (nI_pos (by omega)) (br_t (nI_le (b := 100) ht (by omega)) h)
theorem ty_bQc {post : Int32 → Prop} {x y : Int32} (hb : x < 0 ∨ nI m ≤ x) (h : post 1) : wpY_badQuestion post ((nI m), vY, is, su, ik, sk, fr, tt, te, re, hY, an, le, st, fo, co, ls, ne, na, pY, ro) x y := by
  unfold wpY_badQuestion
  refine ty_bC0 hb ?_
  exact br_f (by decide) h
theorem ty_bQt {post : Int32 → Prop} {c : Nat} {y : Int32} (h12 : m ≤ 12) (hc : c < m) (hb : y < 0 ∨ nI 101 ≤ y) (h : post 1) : wpY_badQuestion post ((nI m), vY, is, su, ik, sk, fr, tt, te, re, hY, an, le, st, fo, co, ls, ne, na, pY, ro) (nI c) y := by
  unfold wpY_badQuestion
  refine ty_bC1 h12 hc ?_
  refine br_t rfl ?_
  refine ty_bT0 hb ?_
  exact br_f (by decide) h
theorem ty_bQ {post : Int32 → Prop} {c t : Nat} (h12 : m ≤ 12) (hc : c < m) (ht : t ≤ 100) (h : post 0) : wpY_badQuestion post ((nI m), vY, is, su, ik, sk, fr, tt, te, re, hY, an, le, st, fo, co, ls, ne, na, pY, ro) (nI c) (nI t) := by
  unfold wpY_badQuestion
  refine ty_bC1 h12 hc ?_
  refine br_t rfl ?_
  refine ty_bT1 ht ?_
  exact br_t rfl h
end
section
variable {D : tp_D} {aX : Int32} {sf gf gt au li rv he aT aE pa cl nl rl pl : Nat → Int32} {vY : Int32} {is su ik sk fr tt te re hY an le st fo co ls ne na pY ro : Nat → Int32}
theorem tx_trusted_c {post : Int32 → SX → Prop} {v1 v2 : Int32} (hb : v1 < 0 ∨ nI (tp_m D) ≤ v1) (h : post (-1) ((nI (tp_m D)), aX, (tp_ie D), (tp_se D), sf, gf, gt, au, li, (tp_al D), (tp_ba D), (tp_po D), rv, he, aT, aE, pa, cl, nl, rl, pl)) : wpX_trusted post ((nI (tp_m D)), aX, (tp_ie D), (tp_se D), sf, gf, gt, au, li, (tp_al D), (tp_ba D), (tp_po D), rv, he, aT, aE, pa, cl, nl, rl, pl) v1 v2 := by
  unfold wpX_trusted
  refine tx_isC0 hb ?_
  exact br_t rfl h
theorem tx_trusted_t {post : Int32 → SX → Prop} {c : Nat} {v2 : Int32} (h12 : tp_m D ≤ 12) (hc : c < tp_m D) (hb : v2 < 0 ∨ nI 101 ≤ v2) (h : post (-1) ((nI (tp_m D)), aX, (tp_ie D), (tp_se D), sf, gf, gt, au, li, (tp_al D), (tp_ba D), (tp_po D), rv, he, aT, aE, pa, cl, nl, rl, pl)) : wpX_trusted post ((nI (tp_m D)), aX, (tp_ie D), (tp_se D), sf, gf, gt, au, li, (tp_al D), (tp_ba D), (tp_po D), rv, he, aT, aE, pa, cl, nl, rl, pl) (nI c) v2 := by
  unfold wpX_trusted
  refine tx_isC1 h12 hc ?_
  refine br_f (by decide) ?_
  refine tx_isT0 hb ?_
  exact br_t rfl h
theorem ty_trusted_c {post : Int32 → SY → Prop} {v1 v2 : Int32} (hb : v1 < 0 ∨ nI (tp_m D) ≤ v1) (h : post (-1) ((nI (tp_m D)), vY, is, su, ik, sk, fr, tt, te, re, hY, an, le, st, fo, co, ls, ne, na, pY, ro)) : wpY_trusted post ((nI (tp_m D)), vY, is, su, ik, sk, fr, tt, te, re, hY, an, le, st, fo, co, ls, ne, na, pY, ro) v1 v2 := by
  unfold wpY_trusted
  refine ty_bQc hb ?_
  exact br_f (by decide) h
theorem ty_trusted_t {post : Int32 → SY → Prop} {c : Nat} {v2 : Int32} (h12 : tp_m D ≤ 12) (hc : c < tp_m D) (hb : v2 < 0 ∨ nI 101 ≤ v2) (h : post (-1) ((nI (tp_m D)), vY, is, su, ik, sk, fr, tt, te, re, hY, an, le, st, fo, co, ls, ne, na, pY, ro)) : wpY_trusted post ((nI (tp_m D)), vY, is, su, ik, sk, fr, tt, te, re, hY, an, le, st, fo, co, ls, ne, na, pY, ro) (nI c) v2 := by
  unfold wpY_trusted
  refine ty_bQt h12 hc hb ?_
  exact br_f (by decide) h
theorem tx_length_c {post : Int32 → SX → Prop} {v1 v2 : Int32} (hb : v1 < 0 ∨ nI (tp_m D) ≤ v1) (h : post (-1) ((nI (tp_m D)), aX, (tp_ie D), (tp_se D), sf, gf, gt, au, li, (tp_al D), (tp_ba D), (tp_po D), rv, he, aT, aE, pa, cl, nl, rl, pl)) : wpX_length post ((nI (tp_m D)), aX, (tp_ie D), (tp_se D), sf, gf, gt, au, li, (tp_al D), (tp_ba D), (tp_po D), rv, he, aT, aE, pa, cl, nl, rl, pl) v1 v2 := by
  unfold wpX_length
  refine tx_isC0 hb ?_
  exact br_t rfl h
theorem tx_length_t {post : Int32 → SX → Prop} {c : Nat} {v2 : Int32} (h12 : tp_m D ≤ 12) (hc : c < tp_m D) (hb : v2 < 0 ∨ nI 101 ≤ v2) (h : post (-1) ((nI (tp_m D)), aX, (tp_ie D), (tp_se D), sf, gf, gt, au, li, (tp_al D), (tp_ba D), (tp_po D), rv, he, aT, aE, pa, cl, nl, rl, pl)) : wpX_length post ((nI (tp_m D)), aX, (tp_ie D), (tp_se D), sf, gf, gt, au, li, (tp_al D), (tp_ba D), (tp_po D), rv, he, aT, aE, pa, cl, nl, rl, pl) (nI c) v2 := by
  unfold wpX_length
  refine tx_isC1 h12 hc ?_
  refine br_f (by decide) ?_
  refine tx_isT0 hb ?_
  exact br_t rfl h
theorem ty_length_c {post : Int32 → SY → Prop} {v1 v2 : Int32} (hb : v1 < 0 ∨ nI (tp_m D) ≤ v1) (h : post (-1) ((nI (tp_m D)), vY, is, su, ik, sk, fr, tt, te, re, hY, an, le, st, fo, co, ls, ne, na, pY, ro)) : wpY_length post ((nI (tp_m D)), vY, is, su, ik, sk, fr, tt, te, re, hY, an, le, st, fo, co, ls, ne, na, pY, ro) v1 v2 := by
  unfold wpY_length
  refine ty_bQc hb ?_
  exact br_f (by decide) h
theorem ty_length_t {post : Int32 → SY → Prop} {c : Nat} {v2 : Int32} (h12 : tp_m D ≤ 12) (hc : c < tp_m D) (hb : v2 < 0 ∨ nI 101 ≤ v2) (h : post (-1) ((nI (tp_m D)), vY, is, su, ik, sk, fr, tt, te, re, hY, an, le, st, fo, co, ls, ne, na, pY, ro)) : wpY_length post ((nI (tp_m D)), vY, is, su, ik, sk, fr, tt, te, re, hY, an, le, st, fo, co, ls, ne, na, pY, ro) (nI c) v2 := by
  unfold wpY_length
  refine ty_bQt h12 hc hb ?_
  exact br_f (by decide) h
theorem tx_step_c {post : Int32 → SX → Prop} {v1 v2 : Int32} {v3 : Int32} (hb : v1 < 0 ∨ nI (tp_m D) ≤ v1) (h : post (-1) ((nI (tp_m D)), aX, (tp_ie D), (tp_se D), sf, gf, gt, au, li, (tp_al D), (tp_ba D), (tp_po D), rv, he, aT, aE, pa, cl, nl, rl, pl)) : wpX_step post ((nI (tp_m D)), aX, (tp_ie D), (tp_se D), sf, gf, gt, au, li, (tp_al D), (tp_ba D), (tp_po D), rv, he, aT, aE, pa, cl, nl, rl, pl) v1 v2 v3 := by
  unfold wpX_step
  refine tx_isC0 hb ?_
  exact br_t rfl h
theorem tx_step_t {post : Int32 → SX → Prop} {c : Nat} {v2 : Int32} {v3 : Int32} (h12 : tp_m D ≤ 12) (hc : c < tp_m D) (hb : v2 < 0 ∨ nI 101 ≤ v2) (h : post (-1) ((nI (tp_m D)), aX, (tp_ie D), (tp_se D), sf, gf, gt, au, li, (tp_al D), (tp_ba D), (tp_po D), rv, he, aT, aE, pa, cl, nl, rl, pl)) : wpX_step post ((nI (tp_m D)), aX, (tp_ie D), (tp_se D), sf, gf, gt, au, li, (tp_al D), (tp_ba D), (tp_po D), rv, he, aT, aE, pa, cl, nl, rl, pl) (nI c) v2 v3 := by
  unfold wpX_step
  refine tx_isC1 h12 hc ?_
  refine br_f (by decide) ?_
  refine tx_isT0 hb ?_
  exact br_t rfl h
theorem ty_step_c {post : Int32 → SY → Prop} {v1 v2 : Int32} {v3 : Int32} (hb : v1 < 0 ∨ nI (tp_m D) ≤ v1) (h : post (-1) ((nI (tp_m D)), vY, is, su, ik, sk, fr, tt, te, re, hY, an, le, st, fo, co, ls, ne, na, pY, ro)) : wpY_step post ((nI (tp_m D)), vY, is, su, ik, sk, fr, tt, te, re, hY, an, le, st, fo, co, ls, ne, na, pY, ro) v1 v2 v3 := by
  unfold wpY_step
  refine ty_bQc hb ?_
  exact br_f (by decide) h
theorem ty_step_t {post : Int32 → SY → Prop} {c : Nat} {v2 : Int32} {v3 : Int32} (h12 : tp_m D ≤ 12) (hc : c < tp_m D) (hb : v2 < 0 ∨ nI 101 ≤ v2) (h : post (-1) ((nI (tp_m D)), vY, is, su, ik, sk, fr, tt, te, re, hY, an, le, st, fo, co, ls, ne, na, pY, ro)) : wpY_step post ((nI (tp_m D)), vY, is, su, ik, sk, fr, tt, te, re, hY, an, le, st, fo, co, ls, ne, na, pY, ro) (nI c) v2 v3 := by
  unfold wpY_step
  refine ty_bQt h12 hc hb ?_
  exact br_f (by decide) h
theorem tx_policies_c {post : Int32 → SX → Prop} {v1 v2 : Int32} (hb : v1 < 0 ∨ nI (tp_m D) ≤ v1) (h : post (-1) ((nI (tp_m D)), aX, (tp_ie D), (tp_se D), sf, gf, gt, au, li, (tp_al D), (tp_ba D), (tp_po D), rv, he, aT, aE, pa, cl, nl, rl, pl)) : wpX_policies post ((nI (tp_m D)), aX, (tp_ie D), (tp_se D), sf, gf, gt, au, li, (tp_al D), (tp_ba D), (tp_po D), rv, he, aT, aE, pa, cl, nl, rl, pl) v1 v2 := by
  unfold wpX_policies
  refine tx_isC0 hb ?_
  exact br_t rfl h
theorem tx_policies_t {post : Int32 → SX → Prop} {c : Nat} {v2 : Int32} (h12 : tp_m D ≤ 12) (hc : c < tp_m D) (hb : v2 < 0 ∨ nI 101 ≤ v2) (h : post (-1) ((nI (tp_m D)), aX, (tp_ie D), (tp_se D), sf, gf, gt, au, li, (tp_al D), (tp_ba D), (tp_po D), rv, he, aT, aE, pa, cl, nl, rl, pl)) : wpX_policies post ((nI (tp_m D)), aX, (tp_ie D), (tp_se D), sf, gf, gt, au, li, (tp_al D), (tp_ba D), (tp_po D), rv, he, aT, aE, pa, cl, nl, rl, pl) (nI c) v2 := by
  unfold wpX_policies
  refine tx_isC1 h12 hc ?_
  refine br_f (by decide) ?_
  refine tx_isT0 hb ?_
  exact br_t rfl h
theorem ty_policies_c {post : Int32 → SY → Prop} {v1 v2 : Int32} (hb : v1 < 0 ∨ nI (tp_m D) ≤ v1) (h : post (-1) ((nI (tp_m D)), vY, is, su, ik, sk, fr, tt, te, re, hY, an, le, st, fo, co, ls, ne, na, pY, ro)) : wpY_policies post ((nI (tp_m D)), vY, is, su, ik, sk, fr, tt, te, re, hY, an, le, st, fo, co, ls, ne, na, pY, ro) v1 v2 := by
  unfold wpY_policies
  refine ty_bQc hb ?_
  exact br_f (by decide) h
theorem ty_policies_t {post : Int32 → SY → Prop} {c : Nat} {v2 : Int32} (h12 : tp_m D ≤ 12) (hc : c < tp_m D) (hb : v2 < 0 ∨ nI 101 ≤ v2) (h : post (-1) ((nI (tp_m D)), vY, is, su, ik, sk, fr, tt, te, re, hY, an, le, st, fo, co, ls, ne, na, pY, ro)) : wpY_policies post ((nI (tp_m D)), vY, is, su, ik, sk, fr, tt, te, re, hY, an, le, st, fo, co, ls, ne, na, pY, ro) (nI c) v2 := by
  unfold wpY_policies
  refine ty_bQt h12 hc hb ?_
  exact br_f (by decide) h
theorem tx_until_c {post : Int32 → SX → Prop} {v1 v2 : Int32} (hb : v1 < 0 ∨ nI (tp_m D) ≤ v1) (h : post (-1) ((nI (tp_m D)), aX, (tp_ie D), (tp_se D), sf, gf, gt, au, li, (tp_al D), (tp_ba D), (tp_po D), rv, he, aT, aE, pa, cl, nl, rl, pl)) : wpX_until post ((nI (tp_m D)), aX, (tp_ie D), (tp_se D), sf, gf, gt, au, li, (tp_al D), (tp_ba D), (tp_po D), rv, he, aT, aE, pa, cl, nl, rl, pl) v1 v2 := by
  unfold wpX_until
  refine tx_isC0 hb ?_
  exact br_t rfl h
theorem tx_until_t {post : Int32 → SX → Prop} {c : Nat} {v2 : Int32} (h12 : tp_m D ≤ 12) (hc : c < tp_m D) (hb : v2 < 0 ∨ nI 101 ≤ v2) (h : post (-1) ((nI (tp_m D)), aX, (tp_ie D), (tp_se D), sf, gf, gt, au, li, (tp_al D), (tp_ba D), (tp_po D), rv, he, aT, aE, pa, cl, nl, rl, pl)) : wpX_until post ((nI (tp_m D)), aX, (tp_ie D), (tp_se D), sf, gf, gt, au, li, (tp_al D), (tp_ba D), (tp_po D), rv, he, aT, aE, pa, cl, nl, rl, pl) (nI c) v2 := by
  unfold wpX_until
  refine tx_isC1 h12 hc ?_
  refine br_f (by decide) ?_
  refine tx_isT0 hb ?_
  exact br_t rfl h
theorem ty_until_c {post : Int32 → SY → Prop} {v1 v2 : Int32} (hb : v1 < 0 ∨ nI (tp_m D) ≤ v1) (h : post (-1) ((nI (tp_m D)), vY, is, su, ik, sk, fr, tt, te, re, hY, an, le, st, fo, co, ls, ne, na, pY, ro)) : wpY_until post ((nI (tp_m D)), vY, is, su, ik, sk, fr, tt, te, re, hY, an, le, st, fo, co, ls, ne, na, pY, ro) v1 v2 := by
  unfold wpY_until
  refine ty_bQc hb ?_
  exact br_f (by decide) h
theorem ty_until_t {post : Int32 → SY → Prop} {c : Nat} {v2 : Int32} (h12 : tp_m D ≤ 12) (hc : c < tp_m D) (hb : v2 < 0 ∨ nI 101 ≤ v2) (h : post (-1) ((nI (tp_m D)), vY, is, su, ik, sk, fr, tt, te, re, hY, an, le, st, fo, co, ls, ne, na, pY, ro)) : wpY_until post ((nI (tp_m D)), vY, is, su, ik, sk, fr, tt, te, re, hY, an, le, st, fo, co, ls, ne, na, pY, ro) (nI c) v2 := by
  unfold wpY_until
  refine ty_bQt h12 hc hb ?_
  exact br_f (by decide) h
theorem tx_depending_c {post : Int32 → SX → Prop} {v1 v2 : Int32} (hb : v1 < 0 ∨ nI (tp_m D) ≤ v1) (h : post (-1) ((nI (tp_m D)), aX, (tp_ie D), (tp_se D), sf, gf, gt, au, li, (tp_al D), (tp_ba D), (tp_po D), rv, he, aT, aE, pa, cl, nl, rl, pl)) : wpX_depending post ((nI (tp_m D)), aX, (tp_ie D), (tp_se D), sf, gf, gt, au, li, (tp_al D), (tp_ba D), (tp_po D), rv, he, aT, aE, pa, cl, nl, rl, pl) v1 v2 := by
  unfold wpX_depending
  refine tx_isC0 hb ?_
  exact br_t rfl h
theorem tx_depending_t {post : Int32 → SX → Prop} {c : Nat} {v2 : Int32} (h12 : tp_m D ≤ 12) (hc : c < tp_m D) (hb : v2 < 0 ∨ nI 101 ≤ v2) (h : post (-1) ((nI (tp_m D)), aX, (tp_ie D), (tp_se D), sf, gf, gt, au, li, (tp_al D), (tp_ba D), (tp_po D), rv, he, aT, aE, pa, cl, nl, rl, pl)) : wpX_depending post ((nI (tp_m D)), aX, (tp_ie D), (tp_se D), sf, gf, gt, au, li, (tp_al D), (tp_ba D), (tp_po D), rv, he, aT, aE, pa, cl, nl, rl, pl) (nI c) v2 := by
  unfold wpX_depending
  refine tx_isC1 h12 hc ?_
  refine br_f (by decide) ?_
  refine tx_isT0 hb ?_
  exact br_t rfl h
theorem ty_depending_c {post : Int32 → SY → Prop} {v1 v2 : Int32} (hb : v1 < 0 ∨ nI (tp_m D) ≤ v1) (h : post (-1) ((nI (tp_m D)), vY, is, su, ik, sk, fr, tt, te, re, hY, an, le, st, fo, co, ls, ne, na, pY, ro)) : wpY_depending post ((nI (tp_m D)), vY, is, su, ik, sk, fr, tt, te, re, hY, an, le, st, fo, co, ls, ne, na, pY, ro) v1 v2 := by
  unfold wpY_depending
  refine ty_bQc hb ?_
  exact br_f (by decide) h
theorem ty_depending_t {post : Int32 → SY → Prop} {c : Nat} {v2 : Int32} (h12 : tp_m D ≤ 12) (hc : c < tp_m D) (hb : v2 < 0 ∨ nI 101 ≤ v2) (h : post (-1) ((nI (tp_m D)), vY, is, su, ik, sk, fr, tt, te, re, hY, an, le, st, fo, co, ls, ne, na, pY, ro)) : wpY_depending post ((nI (tp_m D)), vY, is, su, ik, sk, fr, tt, te, re, hY, an, le, st, fo, co, ls, ne, na, pY, ro) (nI c) v2 := by
  unfold wpY_depending
  refine ty_bQt h12 hc hb ?_
  exact br_f (by decide) h
theorem tx_narrow_c {post : Int32 → SX → Prop} {v1 v2 : Int32} (hb : v1 < 0 ∨ nI (tp_m D) ≤ v1) (h : post (-1) ((nI (tp_m D)), aX, (tp_ie D), (tp_se D), sf, gf, gt, au, li, (tp_al D), (tp_ba D), (tp_po D), rv, he, aT, aE, pa, cl, nl, rl, pl)) : wpX_narrow post ((nI (tp_m D)), aX, (tp_ie D), (tp_se D), sf, gf, gt, au, li, (tp_al D), (tp_ba D), (tp_po D), rv, he, aT, aE, pa, cl, nl, rl, pl) v1 v2 := by
  unfold wpX_narrow
  refine tx_isC0 hb ?_
  exact br_t rfl h
theorem tx_narrow_t {post : Int32 → SX → Prop} {c : Nat} {v2 : Int32} (h12 : tp_m D ≤ 12) (hc : c < tp_m D) (hb : v2 < 0 ∨ nI 101 ≤ v2) (h : post (-1) ((nI (tp_m D)), aX, (tp_ie D), (tp_se D), sf, gf, gt, au, li, (tp_al D), (tp_ba D), (tp_po D), rv, he, aT, aE, pa, cl, nl, rl, pl)) : wpX_narrow post ((nI (tp_m D)), aX, (tp_ie D), (tp_se D), sf, gf, gt, au, li, (tp_al D), (tp_ba D), (tp_po D), rv, he, aT, aE, pa, cl, nl, rl, pl) (nI c) v2 := by
  unfold wpX_narrow
  refine tx_isC1 h12 hc ?_
  refine br_f (by decide) ?_
  refine tx_isT0 hb ?_
  exact br_t rfl h
theorem ty_narrow_c {post : Int32 → SY → Prop} {v1 v2 : Int32} (hb : v1 < 0 ∨ nI (tp_m D) ≤ v1) (h : post (-1) ((nI (tp_m D)), vY, is, su, ik, sk, fr, tt, te, re, hY, an, le, st, fo, co, ls, ne, na, pY, ro)) : wpY_narrow post ((nI (tp_m D)), vY, is, su, ik, sk, fr, tt, te, re, hY, an, le, st, fo, co, ls, ne, na, pY, ro) v1 v2 := by
  unfold wpY_narrow
  refine ty_bQc hb ?_
  exact br_f (by decide) h
theorem ty_narrow_t {post : Int32 → SY → Prop} {c : Nat} {v2 : Int32} (h12 : tp_m D ≤ 12) (hc : c < tp_m D) (hb : v2 < 0 ∨ nI 101 ≤ v2) (h : post (-1) ((nI (tp_m D)), vY, is, su, ik, sk, fr, tt, te, re, hY, an, le, st, fo, co, ls, ne, na, pY, ro)) : wpY_narrow post ((nI (tp_m D)), vY, is, su, ik, sk, fr, tt, te, re, hY, an, le, st, fo, co, ls, ne, na, pY, ro) (nI c) v2 := by
  unfold wpY_narrow
  refine ty_bQt h12 hc hb ?_
  exact br_f (by decide) h
theorem tx_trusted {post : Int32 → SX → Prop} {c t : Nat} {U : Int32} (hS : tx_S D sf au li aT aE) (hc : c < tp_m D) (ht : t ≤ 100) (hU : tp_mk (tx_ok gf gt rv he (nI t)) (tp_m D) = U) (H : ∀ aX pa cl nl rl pl, post (if 0 < tp_ln (tp_B D U c) then 1 else 0) ((nI (tp_m D)), aX, (tp_ie D), (tp_se D), sf, gf, gt, au, li, (tp_al D), (tp_ba D), (tp_po D), rv, he, aT, aE, pa, cl, nl, rl, pl)) : wpX_trusted post ((nI (tp_m D)), aX, (tp_ie D), (tp_se D), sf, gf, gt, au, li, (tp_al D), (tp_ba D), (tp_po D), rv, he, aT, aE, pa, cl, nl, rl, pl) (nI c) (nI t) := by
  unfold wpX_trusted
  refine tx_isC1 hS.1 hc ?_
  refine br_f (by decide) ?_
  refine tx_isT1 ht ?_
  refine br_f (by decide) ?_
  refine tx_us hS.1 ?_
  rw [hU]
  refine tx_best15 hS hc (fun aX' pa' cl' nl' rl' pl' _ => ?_)
  have h6 := tp_B_le D U c
  by_cases h0 : 0 < tp_ln (tp_B D U c)
  · rw [if_pos h0] at H
    exact br_f (nI_nle h0 (by omega)) (H aX' pa' cl' nl' rl' pl')
  · rw [if_neg h0] at H
    exact br_t (nI_le (b := 0) (by omega) (by omega)) (H aX' pa' cl' nl' rl' pl')
theorem ty_trusted {post : Int32 → SY → Prop} {c t : Nat} {U : Int32} (hS : ty_S D is su ik sk te an) (hc : c < tp_m D) (ht : t ≤ 100) (hU : tp_mk (tx_ok fr tt re hY (nI t)) (tp_m D) = U) (H : ∀ vY le st fo co ls ne na pY ro, post (if 0 < tp_ln (tp_B D U c) then 1 else 0) ((nI (tp_m D)), vY, is, su, ik, sk, fr, tt, te, re, hY, an, le, st, fo, co, ls, ne, na, pY, ro)) : wpY_trusted post ((nI (tp_m D)), vY, is, su, ik, sk, fr, tt, te, re, hY, an, le, st, fo, co, ls, ne, na, pY, ro) (nI c) (nI t) := by
  have h12 := hS.1
  have e2 : (nI c).toNatClampNeg = c := nI_clamp (by omega)
  have vv : vp_in (nI c) 12 := vp_in_nI (by omega) (by omega)
  unfold wpY_trusted
  refine ty_bQ hS.1 hc ht ?_
  refine br_t rfl ?_
  refine ty_va hS.1 ?_
  rw [hU]
  refine ty_search hS (fun le st fo co ls ne na pY ro hR => ?_)
  have h6 := tp_B_le D U c
  dsimp only
  rw [e2, ty_le hR (by omega)]
  refine ⟨vv, ?_⟩
  by_cases h0 : 0 < tp_ln (tp_B D U c)
  · rw [if_pos h0] at H
    exact br_f (nI_nle h0 (by omega)) (H U le st fo co ls ne na pY ro)
  · rw [if_neg h0] at H
    exact br_t (nI_le (b := 0) (by omega) (by omega)) (H U le st fo co ls ne na pY ro)
theorem tx_length {post : Int32 → SX → Prop} {c t : Nat} {U : Int32} (hS : tx_S D sf au li aT aE) (hc : c < tp_m D) (ht : t ≤ 100) (hU : tp_mk (tx_ok gf gt rv he (nI t)) (tp_m D) = U) (H : ∀ aX pa cl nl rl pl, post (if 0 < tp_ln (tp_B D U c) then nI (tp_ln (tp_B D U c)) else -2) ((nI (tp_m D)), aX, (tp_ie D), (tp_se D), sf, gf, gt, au, li, (tp_al D), (tp_ba D), (tp_po D), rv, he, aT, aE, pa, cl, nl, rl, pl)) : wpX_length post ((nI (tp_m D)), aX, (tp_ie D), (tp_se D), sf, gf, gt, au, li, (tp_al D), (tp_ba D), (tp_po D), rv, he, aT, aE, pa, cl, nl, rl, pl) (nI c) (nI t) := by
  unfold wpX_length
  refine tx_isC1 hS.1 hc ?_
  refine br_f (by decide) ?_
  refine tx_isT1 ht ?_
  refine br_f (by decide) ?_
  refine tx_us hS.1 ?_
  rw [hU]
  refine tx_best15 hS hc (fun aX' pa' cl' nl' rl' pl' _ => ?_)
  have h6 := tp_B_le D U c
  by_cases h0 : 0 < tp_ln (tp_B D U c)
  · rw [if_pos h0] at H
    exact br_f (nI_nle h0 (by omega)) (H aX' pa' cl' nl' rl' pl')
  · rw [if_neg h0] at H
    exact br_t (nI_le (b := 0) (by omega) (by omega)) (H aX' pa' cl' nl' rl' pl')
theorem ty_length {post : Int32 → SY → Prop} {c t : Nat} {U : Int32} (hS : ty_S D is su ik sk te an) (hc : c < tp_m D) (ht : t ≤ 100) (hU : tp_mk (tx_ok fr tt re hY (nI t)) (tp_m D) = U) (H : ∀ vY le st fo co ls ne na pY ro, post (if 0 < tp_ln (tp_B D U c) then nI (tp_ln (tp_B D U c)) else -2) ((nI (tp_m D)), vY, is, su, ik, sk, fr, tt, te, re, hY, an, le, st, fo, co, ls, ne, na, pY, ro)) : wpY_length post ((nI (tp_m D)), vY, is, su, ik, sk, fr, tt, te, re, hY, an, le, st, fo, co, ls, ne, na, pY, ro) (nI c) (nI t) := by
  have h12 := hS.1
  have e2 : (nI c).toNatClampNeg = c := nI_clamp (by omega)
  have vv : vp_in (nI c) 12 := vp_in_nI (by omega) (by omega)
  unfold wpY_length
  refine ty_bQ hS.1 hc ht ?_
  refine br_t rfl ?_
  refine ty_va hS.1 ?_
  rw [hU]
  refine ty_search hS (fun le st fo co ls ne na pY ro hR => ?_)
  have h6 := tp_B_le D U c
  dsimp only
  rw [e2, ty_le hR (by omega)]
  refine ⟨vv, ?_⟩
  by_cases h0 : 0 < tp_ln (tp_B D U c)
  · rw [if_pos h0] at H
    exact br_f (nI_nle h0 (by omega)) ⟨vv, H U le st fo co ls ne na pY ro⟩
  · rw [if_neg h0] at H
    exact br_t (nI_le (b := 0) (by omega) (by omega)) (H U le st fo co ls ne na pY ro)
theorem tx_step {post : Int32 → SX → Prop} {c t : Nat} {U v3 : Int32} (hS : tx_S D sf au li aT aE) (hc : c < tp_m D) (ht : t ≤ 100) (hU : tp_mk (tx_ok gf gt rv he (nI t)) (tp_m D) = U) (H0 : (v3 < 0 ∨ nI (tp_ln (tp_B D U c)) ≤ v3) → ∀ aX pa cl nl rl pl, post (-2) ((nI (tp_m D)), aX, (tp_ie D), (tp_se D), sf, gf, gt, au, li, (tp_al D), (tp_ba D), (tp_po D), rv, he, aT, aE, pa, cl, nl, rl, pl)) (H1 : ∀ i q, v3 = nI i → tp_B D U c = some q → i < q.length → ∀ aX pa cl nl rl pl, tp_st pa q → post (pa i) ((nI (tp_m D)), aX, (tp_ie D), (tp_se D), sf, gf, gt, au, li, (tp_al D), (tp_ba D), (tp_po D), rv, he, aT, aE, pa, cl, nl, rl, pl)) : wpX_step post ((nI (tp_m D)), aX, (tp_ie D), (tp_se D), sf, gf, gt, au, li, (tp_al D), (tp_ba D), (tp_po D), rv, he, aT, aE, pa, cl, nl, rl, pl) (nI c) (nI t) v3 := by
  unfold wpX_step
  refine tx_isC1 hS.1 hc ?_
  refine br_f (by decide) ?_
  refine tx_isT1 ht ?_
  refine br_f (by decide) ?_
  refine tx_us hS.1 ?_
  rw [hU]
  refine tx_best15 hS hc (fun aX' pa' cl' nl' rl' pl' hq => ?_)
  have h6 := tp_B_le D U c
  by_cases z : v3 < 0
  · exact br_t z (H0 (Or.inl z) aX' pa' cl' nl' rl' pl')
  refine br_f z ?_
  by_cases z2 : nI (tp_ln (tp_B D U c)) ≤ v3
  · exact br_t z2 (H0 (Or.inr z2) aX' pa' cl' nl' rl' pl')
  refine br_f z2 ?_
  obtain ⟨i, hi, rfl⟩ := nI_of z
  rw [nI_leI (by omega) hi] at z2
  have e3 : (nI i).toNatClampNeg = i := nI_clamp hi
  cases hb : tp_B D U c with
  | none =>
    rw [hb] at z2
    exact absurd (Nat.zero_le i) z2
  | some q =>
    rw [hb] at z2 h6
    have z3 : i < q.length := Nat.lt_of_not_le z2
    have z4 : q.length ≤ 6 := h6
    rw [e3]
    exact ⟨vp_in_nI (by omega) (by omega), H1 i q rfl hb z3 aX' pa' cl' nl' rl' pl' (hq q hb)⟩
theorem ty_step {post : Int32 → SY → Prop} {c t : Nat} {U v3 : Int32} (hS : ty_S D is su ik sk te an) (hc : c < tp_m D) (ht : t ≤ 100) (hU : tp_mk (tx_ok fr tt re hY (nI t)) (tp_m D) = U) (H0 : (v3 < 0 ∨ nI (tp_ln (tp_B D U c)) ≤ v3) → ∀ vY le st fo co ls ne na pY ro, post (-2) ((nI (tp_m D)), vY, is, su, ik, sk, fr, tt, te, re, hY, an, le, st, fo, co, ls, ne, na, pY, ro)) (H1 : ∀ i q, v3 = nI i → tp_B D U c = some q → i < q.length → ∀ vY le st fo co ls ne na pY ro, tp_st (fun i => st (6 * c + i)) q → post (st (6 * c + i)) ((nI (tp_m D)), vY, is, su, ik, sk, fr, tt, te, re, hY, an, le, st, fo, co, ls, ne, na, pY, ro)) : wpY_step post ((nI (tp_m D)), vY, is, su, ik, sk, fr, tt, te, re, hY, an, le, st, fo, co, ls, ne, na, pY, ro) (nI c) (nI t) v3 := by
  have h12 := hS.1
  have e2 : (nI c).toNatClampNeg = c := nI_clamp (by omega)
  have vv : vp_in (nI c) 12 := vp_in_nI (by omega) (by omega)
  unfold wpY_step
  refine ty_bQ hS.1 hc ht ?_
  refine br_t rfl ?_
  refine ty_va hS.1 ?_
  rw [hU]
  refine ty_search hS (fun le st fo co ls ne na pY ro hR => ?_)
  have h6 := tp_B_le D U c
  dsimp only
  rw [e2, ty_le hR (by omega)]
  by_cases z : v3 < 0
  · exact br_t z (H0 (Or.inl z) U le st fo co ls ne na pY ro)
  refine br_f z ⟨vv, ?_⟩
  by_cases z2 : nI (tp_ln (tp_B D U c)) ≤ v3
  · exact br_f (Int32.not_lt.mpr z2) (H0 (Or.inr z2) U le st fo co ls ne na pY ro)
  refine br_t (Int32.not_le.mp z2) ?_
  obtain ⟨i, hi, rfl⟩ := nI_of z
  rw [nI_leI (by omega) hi] at z2
  cases hb : tp_B D U c with
  | none =>
    rw [hb] at z2
    exact absurd (Nat.zero_le i) z2
  | some q =>
    rw [hb] at z2 h6
    have z3 : i < q.length := Nat.lt_of_not_le z2
    have z4 : q.length ≤ 6 := h6
    have e3 : (nI (6 * c + i)).toNatClampNeg = 6 * c + i := nI_clamp (by omega)
    rw [ty_6k c i, e3]
    exact ⟨vp_in_nI (by omega) (by omega), H1 i q rfl hb z3 U le st fo co ls ne na pY ro ((hR c (by omega)).2.1 q hb)⟩
theorem tx_policies {post : Int32 → SX → Prop} {c t : Nat} {U : Int32} (hS : tx_S D sf au li aT aE) (hc : c < tp_m D) (ht : t ≤ 100) (hU : tp_mk (tx_ok gf gt rv he (nI t)) (tp_m D) = U) (H : ∀ aX pa cl nl rl pl, post (tp_mk (tp_Q D U c) 4) ((nI (tp_m D)), aX, (tp_ie D), (tp_se D), sf, gf, gt, au, li, (tp_al D), (tp_ba D), (tp_po D), rv, he, aT, aE, pa, cl, nl, rl, pl)) : wpX_policies post ((nI (tp_m D)), aX, (tp_ie D), (tp_se D), sf, gf, gt, au, li, (tp_al D), (tp_ba D), (tp_po D), rv, he, aT, aE, pa, cl, nl, rl, pl) (nI c) (nI t) := by
  unfold wpX_policies
  refine tx_isC1 hS.1 hc ?_
  refine br_f (by decide) ?_
  refine tx_isT1 ht ?_
  refine br_f (by decide) ?_
  refine tx_us hS.1 ?_
  rw [hU]
  exact ⟨5, tx_pol30 hS hc H 4 0 aX pa cl nl rl pl 5 (by omega) (by omega)⟩
theorem ty_policies {post : Int32 → SY → Prop} {c t : Nat} {U : Int32} (hS : ty_S D is su ik sk te an) (hc : c < tp_m D) (ht : t ≤ 100) (hU : tp_mk (tx_ok fr tt re hY (nI t)) (tp_m D) = U) (H : ∀ vY le st fo co ls ne na pY ro, post (tp_mk (tp_Q D U c) 4) ((nI (tp_m D)), vY, is, su, ik, sk, fr, tt, te, re, hY, an, le, st, fo, co, ls, ne, na, pY, ro)) : wpY_policies post ((nI (tp_m D)), vY, is, su, ik, sk, fr, tt, te, re, hY, an, le, st, fo, co, ls, ne, na, pY, ro) (nI c) (nI t) := by
  have h12 := hS.1
  have e2 : (nI c).toNatClampNeg = c := nI_clamp (by omega)
  have vv : vp_in (nI c) 12 := vp_in_nI (by omega) (by omega)
  unfold wpY_policies
  refine ty_bQ hS.1 hc ht ?_
  refine br_t rfl ?_
  refine ty_va hS.1 ?_
  rw [hU]
  refine ty_search hS (fun le st fo co ls ne na pY ro hR => ?_)
  dsimp only
  rw [e2, ty_pol hR (by omega)]
  exact ⟨vv, H U le st fo co ls ne na pY ro⟩
theorem tx_depending {post : Int32 → SX → Prop} {c t : Nat} {U : Int32} (hS : tx_S D sf au li aT aE) (hc : c < tp_m D) (ht : t ≤ 100) (hU : tp_mk (tx_ok gf gt rv he (nI t)) (tp_m D) = U) (H : ∀ aX pa cl nl rl pl, post (nI (tp_cn (tp_tr D U) (tp_m D)) - nI (tp_cn (tp_tr D (U &&& (((1 : Int32) <<< (nI c &&& 31)) ^^^ (-1)))) (tp_m D))) ((nI (tp_m D)), aX, (tp_ie D), (tp_se D), sf, gf, gt, au, li, (tp_al D), (tp_ba D), (tp_po D), rv, he, aT, aE, pa, cl, nl, rl, pl)) : wpX_depending post ((nI (tp_m D)), aX, (tp_ie D), (tp_se D), sf, gf, gt, au, li, (tp_al D), (tp_ba D), (tp_po D), rv, he, aT, aE, pa, cl, nl, rl, pl) (nI c) (nI t) := by
  unfold wpX_depending
  refine tx_isC1 hS.1 hc ?_
  refine br_f (by decide) ?_
  refine tx_isT1 ht ?_
  refine br_f (by decide) ?_
  refine tx_us hS.1 ?_
  rw [hU]
  refine tx_count hS (fun aX' pa' cl' nl' rl' pl' => ?_)
  refine tx_count hS (fun aX2 pa2 cl2 nl2 rl2 pl2 => ?_)
  exact H aX2 pa2 cl2 nl2 rl2 pl2
theorem ty_depending {post : Int32 → SY → Prop} {c t : Nat} {U : Int32} (hS : ty_S D is su ik sk te an) (hc : c < tp_m D) (ht : t ≤ 100) (hU : tp_mk (tx_ok fr tt re hY (nI t)) (tp_m D) = U) (H : ∀ vY le st fo co ls ne na pY ro, post (nI (tp_cn (tp_tr D U) (tp_m D)) - nI (tp_cn (tp_tr D (U &&& (((1 : Int32) <<< (nI c &&& 31)) ^^^ (-1)))) (tp_m D))) ((nI (tp_m D)), vY, is, su, ik, sk, fr, tt, te, re, hY, an, le, st, fo, co, ls, ne, na, pY, ro)) : wpY_depending post ((nI (tp_m D)), vY, is, su, ik, sk, fr, tt, te, re, hY, an, le, st, fo, co, ls, ne, na, pY, ro) (nI c) (nI t) := by
  have h12 := hS.1
  have e2 : (nI c).toNatClampNeg = c := nI_clamp (by omega)
  have vv : vp_in (nI c) 12 := vp_in_nI (by omega) (by omega)
  unfold wpY_depending
  refine ty_bQ hS.1 hc ht ?_
  refine br_t rfl ?_
  refine ty_va hS.1 ?_
  rw [hU]
  refine ty_search hS (fun le st fo co ls ne na pY ro hR => ?_)
  refine ty_count h12 hR ?_
  refine ty_va h12 ?_
  rw [hU]
  refine ty_search hS (fun le2 st2 fo2 co2 ls2 ne2 na2 pY2 ro2 hR2 => ?_)
  refine ty_count h12 hR2 ?_
  exact H _ le2 st2 fo2 co2 ls2 ne2 na2 pY2 ro2
theorem tx_narrow {post : Int32 → SX → Prop} {c t : Nat} {U : Int32} (hS : tx_S D sf au li aT aE) (hc : c < tp_m D) (ht : t ≤ 100) (hU : tp_mk (tx_ok gf gt rv he (nI t)) (tp_m D) = U) (H : ∀ aX pa cl nl rl pl, post (if tp_ln (tp_B D U c) = 0 then -2 else tp_fs (tp_nf D U c) (tp_m D) 0) ((nI (tp_m D)), aX, (tp_ie D), (tp_se D), sf, gf, gt, au, li, (tp_al D), (tp_ba D), (tp_po D), rv, he, aT, aE, pa, cl, nl, rl, pl)) : wpX_narrow post ((nI (tp_m D)), aX, (tp_ie D), (tp_se D), sf, gf, gt, au, li, (tp_al D), (tp_ba D), (tp_po D), rv, he, aT, aE, pa, cl, nl, rl, pl) (nI c) (nI t) := by
  unfold wpX_narrow
  refine tx_isC1 hS.1 hc ?_
  refine br_f (by decide) ?_
  refine tx_isT1 ht ?_
  refine br_f (by decide) ?_
  refine tx_us hS.1 ?_
  rw [hU]
  refine tx_best15 hS hc (fun aX' pa' cl' nl' rl' pl' _ => ?_)
  have h6 := tp_B_le D U c
  by_cases h0 : tp_ln (tp_B D U c) = 0
  · rw [if_pos h0] at H
    exact br_t (by rw [h0]; rfl) (H aX' pa' cl' nl' rl' pl')
  · rw [if_neg h0] at H
    exact br_f (nI_ne0 (by omega) (by omega)) ⟨tp_m D + 1, tx_narrow41 hS hc (tp_m D) 0 aX' pa' cl' nl' rl' pl' _ (by omega) (by omega) H⟩
theorem ty_narrow {post : Int32 → SY → Prop} {c t : Nat} {U : Int32} (hS : ty_S D is su ik sk te an) (hc : c < tp_m D) (ht : t ≤ 100) (hU : tp_mk (tx_ok fr tt re hY (nI t)) (tp_m D) = U) (H : ∀ vY le st fo co ls ne na pY ro, post (if tp_ln (tp_B D U c) = 0 then -2 else tp_fs (tp_nf D U c) (tp_m D) 0) ((nI (tp_m D)), vY, is, su, ik, sk, fr, tt, te, re, hY, an, le, st, fo, co, ls, ne, na, pY, ro)) : wpY_narrow post ((nI (tp_m D)), vY, is, su, ik, sk, fr, tt, te, re, hY, an, le, st, fo, co, ls, ne, na, pY, ro) (nI c) (nI t) := by
  have h12 := hS.1
  have e2 : (nI c).toNatClampNeg = c := nI_clamp (by omega)
  have vv : vp_in (nI c) 12 := vp_in_nI (by omega) (by omega)
  unfold wpY_narrow
  refine ty_bQ hS.1 hc ht ?_
  refine br_t rfl ?_
  refine ty_va hS.1 ?_
  rw [hU]
  refine ty_search hS (fun le st fo co ls ne na pY ro hR => ?_)
  by_cases h0 : tp_ln (tp_B D U c) = 0
  · rw [if_pos h0] at H
    exact ⟨tp_m D + 1, ty_narrow0 h12 hc hR h0 (H U le st fo co ls ne na pY ro) (tp_m D) 0 _ (by omega) (by omega)⟩
  · rw [if_neg h0] at H
    exact ⟨tp_m D + 1, ty_narrow22 h12 hc hR (Nat.pos_of_ne_zero h0) (tp_m D) 0 _ (by omega) (by omega) (H U le st fo co ls ne na pY ro)⟩
theorem tx_until {post : Int32 → SX → Prop} {c t : Nat} {V : Nat → Int32} (hS : tx_S D sf au li aT aE) (hc : c < tp_m D) (ht : t ≤ 100) (hV : ∀ t, t ≤ 100 → V t = tp_mk (tx_ok gf gt rv he (nI t)) (tp_m D)) (H : ∀ aX pa cl nl rl pl, post (tp_un (tp_ug D V c) (101 - t) t (-2)) ((nI (tp_m D)), aX, (tp_ie D), (tp_se D), sf, gf, gt, au, li, (tp_al D), (tp_ba D), (tp_po D), rv, he, aT, aE, pa, cl, nl, rl, pl)) : wpX_until post ((nI (tp_m D)), aX, (tp_ie D), (tp_se D), sf, gf, gt, au, li, (tp_al D), (tp_ba D), (tp_po D), rv, he, aT, aE, pa, cl, nl, rl, pl) (nI c) (nI t) := by
  unfold wpX_until
  refine tx_isC1 hS.1 hc ?_
  refine br_f (by decide) ?_
  refine tx_isT1 ht ?_
  refine br_f (by decide) ?_
  exact ⟨102, tx_until24 hS hc hV (101 - t) t (-2) aX pa cl nl rl pl 102 (by omega) (by omega) H⟩
theorem ty_until {post : Int32 → SY → Prop} {c t : Nat} {V : Nat → Int32} (hS : ty_S D is su ik sk te an) (hc : c < tp_m D) (ht : t ≤ 100) (hV : ∀ t, t ≤ 100 → V t = tp_mk (tx_ok fr tt re hY (nI t)) (tp_m D)) (H : ∀ vY le st fo co ls ne na pY ro, post (tp_un (tp_ug D V c) (101 - t) t (-2)) ((nI (tp_m D)), vY, is, su, ik, sk, fr, tt, te, re, hY, an, le, st, fo, co, ls, ne, na, pY, ro)) : wpY_until post ((nI (tp_m D)), vY, is, su, ik, sk, fr, tt, te, re, hY, an, le, st, fo, co, ls, ne, na, pY, ro) (nI c) (nI t) := by
  have h12 := hS.1
  have e2 : (nI c).toNatClampNeg = c := nI_clamp (by omega)
  have vv : vp_in (nI c) 12 := vp_in_nI (by omega) (by omega)
  unfold wpY_until
  refine ty_bQ hS.1 hc ht ?_
  refine br_t rfl ?_
  exact ⟨102, ty_until20 hS hc hV (101 - t) t (-2) (-1) vY le st fo co ls ne na pY ro 102 (by omega) (by omega) (Or.inl rfl) H⟩
theorem tx_cnt {post : Int32 → SX → Prop} {t : Nat} {U : Int32} (hS : tx_S D sf au li aT aE) (ht : t ≤ 100) (hU : tp_mk (tx_ok gf gt rv he (nI t)) (tp_m D) = U) (H : ∀ aX pa cl nl rl pl, post (nI (tp_cn (tp_tr D U) (tp_m D))) ((nI (tp_m D)), aX, (tp_ie D), (tp_se D), sf, gf, gt, au, li, (tp_al D), (tp_ba D), (tp_po D), rv, he, aT, aE, pa, cl, nl, rl, pl)) : wpX_count post ((nI (tp_m D)), aX, (tp_ie D), (tp_se D), sf, gf, gt, au, li, (tp_al D), (tp_ba D), (tp_po D), rv, he, aT, aE, pa, cl, nl, rl, pl) (nI t) := by
  unfold wpX_count
  refine tx_isT1 ht ?_
  refine br_f (by decide) ?_
  refine tx_us hS.1 ?_
  rw [hU]
  refine tx_count hS (fun aX' pa' cl' nl' rl' pl' => ?_)
  exact H aX' pa' cl' nl' rl' pl'
theorem tx_cnt_t {post : Int32 → SX → Prop} {v : Int32} (hb : v < 0 ∨ nI 101 ≤ v) (h : post (-1) ((nI (tp_m D)), aX, (tp_ie D), (tp_se D), sf, gf, gt, au, li, (tp_al D), (tp_ba D), (tp_po D), rv, he, aT, aE, pa, cl, nl, rl, pl)) : wpX_count post ((nI (tp_m D)), aX, (tp_ie D), (tp_se D), sf, gf, gt, au, li, (tp_al D), (tp_ba D), (tp_po D), rv, he, aT, aE, pa, cl, nl, rl, pl) v := by
  unfold wpX_count
  refine tx_isT0 hb ?_
  exact br_t rfl h
theorem ty_cnt {post : Int32 → SY → Prop} {t : Nat} {U : Int32} (hS : ty_S D is su ik sk te an) (ht : t ≤ 100) (hU : tp_mk (tx_ok fr tt re hY (nI t)) (tp_m D) = U) (H : ∀ vY le st fo co ls ne na pY ro, post (nI (tp_cn (tp_tr D U) (tp_m D))) ((nI (tp_m D)), vY, is, su, ik, sk, fr, tt, te, re, hY, an, le, st, fo, co, ls, ne, na, pY, ro)) : wpY_count post ((nI (tp_m D)), vY, is, su, ik, sk, fr, tt, te, re, hY, an, le, st, fo, co, ls, ne, na, pY, ro) (nI t) := by
  unfold wpY_count
  refine ty_bT1 ht ?_
  refine br_t rfl ?_
  refine ty_va hS.1 ?_
  rw [hU]
  refine ty_search hS (fun le st fo co ls ne na pY ro hR => ?_)
  refine ty_count hS.1 hR ?_
  exact H U le st fo co ls ne na pY ro
theorem ty_cnt_t {post : Int32 → SY → Prop} {v : Int32} (hb : v < 0 ∨ nI 101 ≤ v) (h : post (-1) ((nI (tp_m D)), vY, is, su, ik, sk, fr, tt, te, re, hY, an, le, st, fo, co, ls, ne, na, pY, ro)) : wpY_count post ((nI (tp_m D)), vY, is, su, ik, sk, fr, tt, te, re, hY, an, le, st, fo, co, ls, ne, na, pY, ro) v := by
  unfold wpY_count
  refine ty_bT0 hb ?_
  exact br_f (by decide) h
theorem vq_7 {x : Int32} (h : nI 8 ≤ x) : (7 : Int32) < x := Int32.lt_of_lt_of_le (by decide) h
theorem vq_3 {x : Int32} (h : nI 4 ≤ x) : (3 : Int32) < x := Int32.lt_of_lt_of_le (by decide) h
theorem tx_keys_n {post : Int32 → SX → Prop} {v1 v2 v3 : Int32} (hb : v1 < 0 ∨ nI 8 ≤ v1) (h : post (-1) ((nI (tp_m D)), aX, (tp_ie D), (tp_se D), sf, gf, gt, au, li, (tp_al D), (tp_ba D), (tp_po D), rv, he, aT, aE, pa, cl, nl, rl, pl)) : wpX_keysOf post ((nI (tp_m D)), aX, (tp_ie D), (tp_se D), sf, gf, gt, au, li, (tp_al D), (tp_ba D), (tp_po D), rv, he, aT, aE, pa, cl, nl, rl, pl) v1 v2 v3 := by
  unfold wpX_keysOf
  by_cases z : v1 < 0
  · exact br_t z h
  · exact br_f z (br_t (hb.resolve_left z) h)
theorem ty_keys_n {post : Int32 → SY → Prop} {v1 v2 v3 : Int32} (hb : v1 < 0 ∨ nI 8 ≤ v1) (h : post (-1) ((nI (tp_m D)), vY, is, su, ik, sk, fr, tt, te, re, hY, an, le, st, fo, co, ls, ne, na, pY, ro)) : wpY_keysOf post ((nI (tp_m D)), vY, is, su, ik, sk, fr, tt, te, re, hY, an, le, st, fo, co, ls, ne, na, pY, ro) v1 v2 v3 := by
  unfold wpY_keysOf
  by_cases z : v1 < 0
  · exact br_t z h
  · exact br_f z (br_t (vq_7 (hb.resolve_left z)) h)
theorem tx_keys_t {post : Int32 → SX → Prop} {v2 v3 : Int32} {a : Nat} (ha : a < 8) (hb : v2 < 0 ∨ nI 101 ≤ v2) (h : post (-1) ((nI (tp_m D)), aX, (tp_ie D), (tp_se D), sf, gf, gt, au, li, (tp_al D), (tp_ba D), (tp_po D), rv, he, aT, aE, pa, cl, nl, rl, pl)) : wpX_keysOf post ((nI (tp_m D)), aX, (tp_ie D), (tp_se D), sf, gf, gt, au, li, (tp_al D), (tp_ba D), (tp_po D), rv, he, aT, aE, pa, cl, nl, rl, pl) (nI a) v2 v3 := by
  unfold wpX_keysOf
  refine br_f (nI_pos (by omega)) (br_f (nI_ge (b := 8) ha (by omega)) ?_)
  refine tx_isT0 hb ?_
  exact br_t rfl h
theorem ty_keys_t {post : Int32 → SY → Prop} {v2 v3 : Int32} {a : Nat} (ha : a < 8) (hb : v2 < 0 ∨ nI 101 ≤ v2) (h : post (-1) ((nI (tp_m D)), vY, is, su, ik, sk, fr, tt, te, re, hY, an, le, st, fo, co, ls, ne, na, pY, ro)) : wpY_keysOf post ((nI (tp_m D)), vY, is, su, ik, sk, fr, tt, te, re, hY, an, le, st, fo, co, ls, ne, na, pY, ro) (nI a) v2 v3 := by
  unfold wpY_keysOf
  refine br_f (nI_pos (by omega)) (br_f (nI_nlt (a := 7) (by omega) (by omega)) ?_)
  refine ty_bT0 hb ?_
  exact br_f (by decide) h
theorem tx_keys_p {post : Int32 → SX → Prop} {v3 : Int32} {a t : Nat} (ha : a < 8) (ht : t ≤ 100) (hb : v3 < 0 ∨ nI 4 ≤ v3) (h : post (-1) ((nI (tp_m D)), aX, (tp_ie D), (tp_se D), sf, gf, gt, au, li, (tp_al D), (tp_ba D), (tp_po D), rv, he, aT, aE, pa, cl, nl, rl, pl)) : wpX_keysOf post ((nI (tp_m D)), aX, (tp_ie D), (tp_se D), sf, gf, gt, au, li, (tp_al D), (tp_ba D), (tp_po D), rv, he, aT, aE, pa, cl, nl, rl, pl) (nI a) (nI t) v3 := by
  unfold wpX_keysOf
  refine br_f (nI_pos (by omega)) (br_f (nI_ge (b := 8) ha (by omega)) ?_)
  refine tx_isT1 ht ?_
  refine br_f (by decide) ?_
  by_cases z : v3 < 0
  · exact br_t z h
  · exact br_f z (br_f (Int32.not_lt.mpr (hb.resolve_left z)) h)
theorem ty_keys_p {post : Int32 → SY → Prop} {v3 : Int32} {a t : Nat} (ha : a < 8) (ht : t ≤ 100) (hb : v3 < 0 ∨ nI 4 ≤ v3) (h : post (-1) ((nI (tp_m D)), vY, is, su, ik, sk, fr, tt, te, re, hY, an, le, st, fo, co, ls, ne, na, pY, ro)) : wpY_keysOf post ((nI (tp_m D)), vY, is, su, ik, sk, fr, tt, te, re, hY, an, le, st, fo, co, ls, ne, na, pY, ro) (nI a) (nI t) v3 := by
  unfold wpY_keysOf
  refine br_f (nI_pos (by omega)) (br_f (nI_nlt (a := 7) (by omega) (by omega)) ?_)
  refine ty_bT1 ht ?_
  refine br_t rfl ?_
  by_cases z : v3 < 0
  · exact br_t z h
  · exact br_f z (br_f (Int32.not_le.mpr (vq_3 (hb.resolve_left z))) h)
theorem tx_keys {post : Int32 → SX → Prop} {a t p : Nat} {U : Int32} (hS : tx_S D sf au li aT aE) (ha : a < 8) (ht : t ≤ 100) (hp : p < 4) (hU : tp_mk (tx_ok gf gt rv he (nI t)) (tp_m D) = U) (H : ∀ aX pa cl nl rl pl, post (tp_ks (tp_kf D U (nI a) p) (tp_kx D) (tp_m D)) ((nI (tp_m D)), aX, (tp_ie D), (tp_se D), sf, gf, gt, au, li, (tp_al D), (tp_ba D), (tp_po D), rv, he, aT, aE, pa, cl, nl, rl, pl)) : wpX_keysOf post ((nI (tp_m D)), aX, (tp_ie D), (tp_se D), sf, gf, gt, au, li, (tp_al D), (tp_ba D), (tp_po D), rv, he, aT, aE, pa, cl, nl, rl, pl) (nI a) (nI t) (nI p) := by
  unfold wpX_keysOf
  refine br_f (nI_pos (by omega)) (br_f (nI_ge (b := 8) ha (by omega)) ?_)
  refine tx_isT1 ht ?_
  refine br_f (by decide) (br_f (nI_pos (by omega)) (br_t (nI_lt (b := 4) hp (by omega)) ?_))
  refine tx_us hS.1 ?_
  rw [hU]
  exact ⟨tp_m D + 1, tx_keys42 hS hp H (tp_m D) 0 aX pa cl nl rl pl _ (by omega) (by omega)⟩
theorem ty_keys {post : Int32 → SY → Prop} {a t p : Nat} {U : Int32} (hS : ty_S D is su ik sk te an) (hk : ∀ c, c < tp_m D → sk c = tp_kx D c) (ha : a < 8) (ht : t ≤ 100) (hp : p < 4) (hU : tp_mk (tx_ok fr tt re hY (nI t)) (tp_m D) = U) (H : ∀ vY le st fo co ls ne na pY ro, post (tp_ks (tp_kf D U (nI a) p) (tp_kx D) (tp_m D)) ((nI (tp_m D)), vY, is, su, ik, sk, fr, tt, te, re, hY, an, le, st, fo, co, ls, ne, na, pY, ro)) : wpY_keysOf post ((nI (tp_m D)), vY, is, su, ik, sk, fr, tt, te, re, hY, an, le, st, fo, co, ls, ne, na, pY, ro) (nI a) (nI t) (nI p) := by
  unfold wpY_keysOf
  refine br_f (nI_pos (by omega)) (br_f (nI_nlt (a := 7) (by omega) (by omega)) ?_)
  refine ty_bT1 ht ?_
  refine br_t rfl (br_f (nI_pos (by omega)) (br_t (nI_le (b := 3) (by omega) (by omega)) ?_))
  refine ty_va hS.1 ?_
  rw [hU]
  refine ty_search hS (fun le st fo co ls ne na pY ro hR => ?_)
  exact ⟨tp_m D + 1, ty_keys44 hS hk hp hR (H U le st fo co ls ne na pY ro) (tp_m D) 0 _ (by omega) (by omega)⟩
end
