/-! times, set, revoke, hold, anchor, distrust: each side by itself -/
theorem vq_4 {x : Int32} (h : nI 5 ≤ x) : (4 : Int32) < x := Int32.lt_of_lt_of_le (by decide) h
theorem vq_2 {x : Int32} (h : nI 3 ≤ x) : (2 : Int32) < x := Int32.lt_of_lt_of_le (by decide) h
theorem vq_79 {x : Int32} (h : nI 80 ≤ x) : (79 : Int32) < x := Int32.lt_of_lt_of_le (by decide) h
theorem vq_63 {x : Int32} (h : nI 64 ≤ x) : (63 : Int32) < x := Int32.lt_of_lt_of_le (by decide) h
theorem vq_99 {x : Int32} (h : nI 100 ≤ x) : (99 : Int32) < x := Int32.lt_of_lt_of_le (by decide) h
theorem vq_in (x : Int32) (n : Nat) (hn : n < 2 ^ 31) : (x < 0 ∨ nI n ≤ x) ∨ ∃ c, c < n ∧ x = nI c := by
  rcases pk_ix x (n := n) hn with h | h | h
  · exact Or.inl (Or.inl h)
  · exact Or.inl (Or.inr h)
  · exact Or.inr h
section
variable {m : Nat} {aX : Int32} {ie se sf gf gt au li al ba po rv he aT aE pa cl nl rl pl : Nat → Int32} {vY : Int32} {is su ik sk fr tt te re hY an le st fo co ls ne na pY ro : Nat → Int32}
theorem tx_make_n {post : Int32 → SX → Prop} {v1 v2 : Int32} (hb : v1 < 0 ∨ nI 64 ≤ v1) (h : post (-1) ((nI m), aX, ie, se, sf, gf, gt, au, li, al, ba, po, rv, he, aT, aE, pa, cl, nl, rl, pl)) : wpX_make post ((nI m), aX, ie, se, sf, gf, gt, au, li, al, ba, po, rv, he, aT, aE, pa, cl, nl, rl, pl) v1 v2 := by
  unfold wpX_make
  by_cases z : v1 < 0
  · exact br_t z h
  · exact br_f z (br_t (hb.resolve_left z) h)
theorem ty_make_n {post : Int32 → SY → Prop} {v1 v2 : Int32} (hb : v1 < 0 ∨ nI 64 ≤ v1) (h : post (-1) ((nI m), vY, is, su, ik, sk, fr, tt, te, re, hY, an, le, st, fo, co, ls, ne, na, pY, ro)) : wpY_make post ((nI m), vY, is, su, ik, sk, fr, tt, te, re, hY, an, le, st, fo, co, ls, ne, na, pY, ro) v1 v2 := by
  unfold wpY_make
  by_cases z : v1 < 0
  · exact br_t z h
  · exact br_f z (br_t (vq_63 (hb.resolve_left z)) h)
theorem tx_make_k {post : Int32 → SX → Prop} {v2 : Int32} {a : Nat} (ha : a < 64) (hb : v2 < 0 ∨ nI 100 ≤ v2) (h : post (-1) ((nI m), aX, ie, se, sf, gf, gt, au, li, al, ba, po, rv, he, aT, aE, pa, cl, nl, rl, pl)) : wpX_make post ((nI m), aX, ie, se, sf, gf, gt, au, li, al, ba, po, rv, he, aT, aE, pa, cl, nl, rl, pl) (nI a) v2 := by
  unfold wpX_make
  refine br_f (nI_pos (by omega)) (br_f (nI_ge (b := 64) (by omega) (by omega)) ?_)
  by_cases z : v2 < 0
  · exact br_t z h
  · exact br_f z (br_f (Int32.not_lt.mpr (hb.resolve_left z)) h)
theorem ty_make_k {post : Int32 → SY → Prop} {v2 : Int32} {a : Nat} (ha : a < 64) (hb : v2 < 0 ∨ nI 100 ≤ v2) (h : post (-1) ((nI m), vY, is, su, ik, sk, fr, tt, te, re, hY, an, le, st, fo, co, ls, ne, na, pY, ro)) : wpY_make post ((nI m), vY, is, su, ik, sk, fr, tt, te, re, hY, an, le, st, fo, co, ls, ne, na, pY, ro) (nI a) v2 := by
  unfold wpY_make
  refine br_f (nI_pos (by omega)) (br_f (nI_nlt (a := 63) (by omega) (by omega)) ?_)
  by_cases z : v2 < 0
  · exact br_t z h
  · exact br_f z (br_f (Int32.not_le.mpr (vq_99 (hb.resolve_left z))) h)
theorem tx_make_f {post : Int32 → SX → Prop} {a b : Nat} (hm : m = 12) (ha : a < 64) (hb : b < 100) (h : post (-3) ((nI m), aX, ie, se, sf, gf, gt, au, li, al, ba, po, rv, he, aT, aE, pa, cl, nl, rl, pl)) : wpX_make post ((nI m), aX, ie, se, sf, gf, gt, au, li, al, ba, po, rv, he, aT, aE, pa, cl, nl, rl, pl) (nI a) (nI b) := by
  unfold wpX_make
  exact br_f (nI_pos (by omega)) (br_f (nI_ge (b := 64) (by omega) (by omega)) (br_f (nI_pos (by omega)) (br_t (nI_lt (b := 100) (by omega) (by omega)) (br_f (nI_nlt (b := 12) (by omega) (by omega)) h))))
theorem ty_make_f {post : Int32 → SY → Prop} {a b : Nat} (hm : m = 12) (ha : a < 64) (hb : b < 100) (h : post (-3) ((nI m), vY, is, su, ik, sk, fr, tt, te, re, hY, an, le, st, fo, co, ls, ne, na, pY, ro)) : wpY_make post ((nI m), vY, is, su, ik, sk, fr, tt, te, re, hY, an, le, st, fo, co, ls, ne, na, pY, ro) (nI a) (nI b) := by
  unfold wpY_make
  exact br_f (nI_pos (by omega)) (br_f (nI_nlt (a := 63) (by omega) (by omega)) (br_f (nI_pos (by omega)) (br_t (nI_le (b := 99) (by omega) (by omega)) (br_t (by rw [hm]; rfl) h))))
theorem tx_times_c {post : Int32 → SX → Prop} {v1 v2 v3 : Int32} (hb : v1 < 0 ∨ nI m ≤ v1) (h : post (-1) ((nI m), aX, ie, se, sf, gf, gt, au, li, al, ba, po, rv, he, aT, aE, pa, cl, nl, rl, pl)) : wpX_times post ((nI m), aX, ie, se, sf, gf, gt, au, li, al, ba, po, rv, he, aT, aE, pa, cl, nl, rl, pl) v1 v2 v3 := by
  unfold wpX_times
  refine tx_isC0 hb ?_
  exact br_t rfl h
theorem ty_times_c {post : Int32 → SY → Prop} {v1 v2 v3 : Int32} (hb : v1 < 0 ∨ nI m ≤ v1) (h : post (-1) ((nI m), vY, is, su, ik, sk, fr, tt, te, re, hY, an, le, st, fo, co, ls, ne, na, pY, ro)) : wpY_times post ((nI m), vY, is, su, ik, sk, fr, tt, te, re, hY, an, le, st, fo, co, ls, ne, na, pY, ro) v1 v2 v3 := by
  unfold wpY_times
  refine ty_bC0 hb ?_
  exact br_f (by decide) h
theorem tx_times_f {post : Int32 → SX → Prop} {c : Nat} {v2 v3 : Int32} (h12 : m ≤ 12) (hc : c < m) (hb : v2 < 0 ∨ nI 101 ≤ v2) (h : post (-1) ((nI m), aX, ie, se, sf, gf, gt, au, li, al, ba, po, rv, he, aT, aE, pa, cl, nl, rl, pl)) : wpX_times post ((nI m), aX, ie, se, sf, gf, gt, au, li, al, ba, po, rv, he, aT, aE, pa, cl, nl, rl, pl) (nI c) v2 v3 := by
  unfold wpX_times
  refine tx_isC1 h12 hc ?_
  refine br_f (by decide) ?_
  refine tx_isT0 hb ?_
  exact br_t rfl h
theorem ty_times_f {post : Int32 → SY → Prop} {c : Nat} {v2 v3 : Int32} (h12 : m ≤ 12) (hc : c < m) (hb : v2 < 0 ∨ nI 101 ≤ v2) (h : post (-1) ((nI m), vY, is, su, ik, sk, fr, tt, te, re, hY, an, le, st, fo, co, ls, ne, na, pY, ro)) : wpY_times post ((nI m), vY, is, su, ik, sk, fr, tt, te, re, hY, an, le, st, fo, co, ls, ne, na, pY, ro) (nI c) v2 v3 := by
  unfold wpY_times
  refine ty_bC1 h12 hc ?_
  refine br_t rfl ?_
  refine ty_bT0 hb ?_
  exact br_f (by decide) h
theorem tx_times_o {post : Int32 → SX → Prop} {c s : Nat} {v3 : Int32} (h12 : m ≤ 12) (hc : c < m) (hs : s ≤ 100) (hb : v3 < 0 ∨ nI 101 ≤ v3) (h : post (-1) ((nI m), aX, ie, se, sf, gf, gt, au, li, al, ba, po, rv, he, aT, aE, pa, cl, nl, rl, pl)) : wpX_times post ((nI m), aX, ie, se, sf, gf, gt, au, li, al, ba, po, rv, he, aT, aE, pa, cl, nl, rl, pl) (nI c) (nI s) v3 := by
  unfold wpX_times
  refine tx_isC1 h12 hc ?_
  refine br_f (by decide) ?_
  refine tx_isT1 hs ?_
  refine br_f (by decide) ?_
  refine tx_isT0 hb ?_
  exact br_t rfl h
theorem ty_times_o {post : Int32 → SY → Prop} {c s : Nat} {v3 : Int32} (h12 : m ≤ 12) (hc : c < m) (hs : s ≤ 100) (hb : v3 < 0 ∨ nI 101 ≤ v3) (h : post (-1) ((nI m), vY, is, su, ik, sk, fr, tt, te, re, hY, an, le, st, fo, co, ls, ne, na, pY, ro)) : wpY_times post ((nI m), vY, is, su, ik, sk, fr, tt, te, re, hY, an, le, st, fo, co, ls, ne, na, pY, ro) (nI c) (nI s) v3 := by
  unfold wpY_times
  refine ty_bC1 h12 hc ?_
  refine br_t rfl ?_
  refine ty_bT1 hs ?_
  refine br_t rfl ?_
  refine ty_bT0 hb ?_
  exact br_f (by decide) h
theorem tx_times {post : Int32 → SX → Prop} {c s t : Nat} (h12 : m ≤ 12) (hc : c < m) (hs : s ≤ 100) (ht : t ≤ 100) (h0 : ¬ s ≤ t → post (-1) ((nI m), aX, ie, se, sf, gf, gt, au, li, al, ba, po, rv, he, aT, aE, pa, cl, nl, rl, pl)) (h1 : s ≤ t → post 0 ((nI m), aX, ie, se, sf, upd gf c (nI s), upd gt c (nI t), au, li, al, ba, po, rv, he, aT, aE, pa, cl, nl, rl, pl)) : wpX_times post ((nI m), aX, ie, se, sf, gf, gt, au, li, al, ba, po, rv, he, aT, aE, pa, cl, nl, rl, pl) (nI c) (nI s) (nI t) := by
  have e : (nI c).toNatClampNeg = c := nI_clamp (by omega)
  have v : vp_in (nI c) 12 := vp_in_nI (by omega) (by omega)
  unfold wpX_times
  dsimp only
  rw [e]
  refine tx_isC1 h12 hc ?_
  refine br_f (by decide) ?_
  refine tx_isT1 hs ?_
  refine br_f (by decide) ?_
  refine tx_isT1 ht ?_
  refine br_f (by decide) ?_
  exact pk_le s t (fun g => ⟨v, nm_e ⟨v, nm_e (h1 g)⟩⟩) (fun g => h0 (by omega))
theorem ty_times {post : Int32 → SY → Prop} {c s t : Nat} (h12 : m ≤ 12) (hc : c < m) (hs : s ≤ 100) (ht : t ≤ 100) (h0 : ¬ s ≤ t → post (-1) ((nI m), vY, is, su, ik, sk, fr, tt, te, re, hY, an, le, st, fo, co, ls, ne, na, pY, ro)) (h1 : s ≤ t → post 0 ((nI m), vY, is, su, ik, sk, upd fr c (nI s), upd tt c (nI t), te, re, hY, an, le, st, fo, co, ls, ne, na, pY, ro)) : wpY_times post ((nI m), vY, is, su, ik, sk, fr, tt, te, re, hY, an, le, st, fo, co, ls, ne, na, pY, ro) (nI c) (nI s) (nI t) := by
  have e : (nI c).toNatClampNeg = c := nI_clamp (by omega)
  have v : vp_in (nI c) 12 := vp_in_nI (by omega) (by omega)
  unfold wpY_times
  dsimp only
  rw [e]
  refine ty_bC1 h12 hc ?_
  refine br_t rfl ?_
  refine ty_bT1 hs ?_
  refine br_t rfl ?_
  refine ty_bT1 ht ?_
  refine br_t rfl ?_
  exact pk_le s t (fun g => ⟨v, nm_e ⟨v, nm_e (h1 g)⟩⟩) (fun g => h0 (by omega))
theorem tx_set_c {post : Int32 → SX → Prop} {v1 v2 v3 : Int32} (hb : v1 < 0 ∨ nI m ≤ v1) (h : post (-1) ((nI m), aX, ie, se, sf, gf, gt, au, li, al, ba, po, rv, he, aT, aE, pa, cl, nl, rl, pl)) : wpX_set post ((nI m), aX, ie, se, sf, gf, gt, au, li, al, ba, po, rv, he, aT, aE, pa, cl, nl, rl, pl) v1 v2 v3 := by
  unfold wpX_set
  refine tx_isC0 hb ?_
  exact br_t rfl h
theorem ty_set_c {post : Int32 → SY → Prop} {v1 v2 v3 : Int32} (hb : v1 < 0 ∨ nI m ≤ v1) (h : post (-1) ((nI m), vY, is, su, ik, sk, fr, tt, te, re, hY, an, le, st, fo, co, ls, ne, na, pY, ro)) : wpY_set post ((nI m), vY, is, su, ik, sk, fr, tt, te, re, hY, an, le, st, fo, co, ls, ne, na, pY, ro) v1 v2 v3 := by
  unfold wpY_set
  refine ty_bC0 hb ?_
  exact br_f (by decide) h
theorem tx_set_n {post : Int32 → SX → Prop} {c : Nat} {v2 v3 : Int32} (h12 : m ≤ 12) (hc : c < m) (hb : v3 < 0) (h : post (-1) ((nI m), aX, ie, se, sf, gf, gt, au, li, al, ba, po, rv, he, aT, aE, pa, cl, nl, rl, pl)) : wpX_set post ((nI m), aX, ie, se, sf, gf, gt, au, li, al, ba, po, rv, he, aT, aE, pa, cl, nl, rl, pl) (nI c) v2 v3 := by
  unfold wpX_set
  refine tx_isC1 h12 hc ?_
  exact br_f (by decide) (br_f (Int32.not_le.mpr hb) h)
theorem ty_set_n {post : Int32 → SY → Prop} {c : Nat} {v2 v3 : Int32} (h12 : m ≤ 12) (hc : c < m) (hb : v3 < 0) (h : post (-1) ((nI m), vY, is, su, ik, sk, fr, tt, te, re, hY, an, le, st, fo, co, ls, ne, na, pY, ro)) : wpY_set post ((nI m), vY, is, su, ik, sk, fr, tt, te, re, hY, an, le, st, fo, co, ls, ne, na, pY, ro) (nI c) v2 v3 := by
  unfold wpY_set
  refine ty_bC1 h12 hc ?_
  exact br_t rfl (br_c (fun _ => h) (fun _ => br_c (fun _ => h) (fun _ => br_t hb h)))
theorem tx_set_w {post : Int32 → SX → Prop} {c x : Nat} {v2 : Int32} (h12 : m ≤ 12) (hc : c < m) (hx : x < 2 ^ 31) (hb : v2 < 0 ∨ nI 5 ≤ v2) (h : post (-1) ((nI m), aX, ie, se, sf, gf, gt, au, li, al, ba, po, rv, he, aT, aE, pa, cl, nl, rl, pl)) : wpX_set post ((nI m), aX, ie, se, sf, gf, gt, au, li, al, ba, po, rv, he, aT, aE, pa, cl, nl, rl, pl) (nI c) v2 (nI x) := by
  unfold wpX_set
  refine tx_isC1 h12 hc ?_
  refine br_f (by decide) (br_t (nI_pos' hx) ?_)
  by_cases z : v2 < 0
  · exact br_t z h
  · exact br_f z (br_t (vq_4 (hb.resolve_left z)) h)
theorem ty_set_w {post : Int32 → SY → Prop} {c : Nat} {v2 v3 : Int32} (h12 : m ≤ 12) (hc : c < m) (hb : v2 < 0 ∨ nI 5 ≤ v2) (h : post (-1) ((nI m), vY, is, su, ik, sk, fr, tt, te, re, hY, an, le, st, fo, co, ls, ne, na, pY, ro)) : wpY_set post ((nI m), vY, is, su, ik, sk, fr, tt, te, re, hY, an, le, st, fo, co, ls, ne, na, pY, ro) (nI c) v2 v3 := by
  unfold wpY_set
  refine ty_bC1 h12 hc ?_
  refine br_t rfl ?_
  by_cases z : v2 < 0
  · exact br_t z h
  · exact br_f z (br_t (vq_4 (hb.resolve_left z)) h)
theorem tx_rep0 {post : Int32 → SX → Prop} {c x : Nat} (hc : c < 12) (hx : x < 2 ^ 31) (h1 : x ≤ 1 → post (au c) ((nI m), aX, ie, se, sf, gf, gt, upd au c (nI x), li, al, ba, po, rv, he, aT, aE, pa, cl, nl, rl, pl)) (h0 : 1 < x → post (-1) ((nI m), aX, ie, se, sf, gf, gt, au, li, al, ba, po, rv, he, aT, aE, pa, cl, nl, rl, pl)) : wpX_replace__authority post ((nI m), aX, ie, se, sf, gf, gt, au, li, al, ba, po, rv, he, aT, aE, pa, cl, nl, rl, pl) (nI c) (nI x) 1 := by
  have e : (nI c).toNatClampNeg = c := nI_clamp (by omega)
  have v : vp_in (nI c) 12 := vp_in_nI (by omega) (by omega)
  unfold wpX_replace__authority
  dsimp only
  rw [e]
  exact pk_le x 1 (fun g => ⟨v, nm_e ⟨v, nm_e (h1 g)⟩⟩) h0
theorem tx_set0 {post : Int32 → SX → Prop} {c x : Nat} (h12 : m ≤ 12) (hc : c < m) (hx : x < 2 ^ 31) (h1 : x ≤ 1 → post (au c) ((nI m), aX, ie, se, sf, gf, gt, upd au c (nI x), li, al, ba, po, rv, he, aT, aE, pa, cl, nl, rl, pl)) (h0 : 1 < x → post (-1) ((nI m), aX, ie, se, sf, gf, gt, au, li, al, ba, po, rv, he, aT, aE, pa, cl, nl, rl, pl)) : wpX_set post ((nI m), aX, ie, se, sf, gf, gt, au, li, al, ba, po, rv, he, aT, aE, pa, cl, nl, rl, pl) (nI c) (nI 0) (nI x) := by
  unfold wpX_set
  refine tx_isC1 h12 hc ?_
  refine br_f (by decide) (br_t (nI_pos' hx) (br_f (by decide) (br_f (by decide) ?_)))
  refine br_t (by decide) ?_
  exact tx_rep0 (by omega) hx h1 h0
theorem ty_set0 {post : Int32 → SY → Prop} {c x : Nat} (h12 : m ≤ 12) (hc : c < m) (hx : x < 2 ^ 31) (h1 : x ≤ 1 → post (te (5 * c)) ((nI m), vY, is, su, ik, sk, fr, tt, upd te (5 * c) (nI x), re, hY, an, le, st, fo, co, ls, ne, na, pY, ro)) (h0 : 1 < x → post (-1) ((nI m), vY, is, su, ik, sk, fr, tt, te, re, hY, an, le, st, fo, co, ls, ne, na, pY, ro)) : wpY_set post ((nI m), vY, is, su, ik, sk, fr, tt, te, re, hY, an, le, st, fo, co, ls, ne, na, pY, ro) (nI c) (nI 0) (nI x) := by
  have e : (nI (5 * c + 0)).toNatClampNeg = 5 * c + 0 := nI_clamp (by omega)
  have v : vp_in (nI (5 * c + 0)) 60 := vp_in_nI (by omega) (by omega)
  unfold wpY_set
  dsimp only
  rw [ty_5k c 0 (x := nI 0) rfl, e]
  refine ty_bC1 h12 hc ?_
  refine br_t rfl (br_f (by decide) (br_f (by decide) (br_f (nI_pos hx) ?_)))
  unfold wpY_most
  refine br_t (by decide) ?_
  exact pk_le x 1 (fun g => ⟨v, nm_e ⟨v, nm_e (h1 g)⟩⟩) h0
theorem tx_rep1 {post : Int32 → SX → Prop} {c x : Nat} (hc : c < 12) (hx : x < 2 ^ 31) (h1 : x ≤ 4 → post (li c) ((nI m), aX, ie, se, sf, gf, gt, au, upd li c (nI x), al, ba, po, rv, he, aT, aE, pa, cl, nl, rl, pl)) (h0 : 4 < x → post (-1) ((nI m), aX, ie, se, sf, gf, gt, au, li, al, ba, po, rv, he, aT, aE, pa, cl, nl, rl, pl)) : wpX_replace__limit post ((nI m), aX, ie, se, sf, gf, gt, au, li, al, ba, po, rv, he, aT, aE, pa, cl, nl, rl, pl) (nI c) (nI x) 4 := by
  have e : (nI c).toNatClampNeg = c := nI_clamp (by omega)
  have v : vp_in (nI c) 12 := vp_in_nI (by omega) (by omega)
  unfold wpX_replace__limit
  dsimp only
  rw [e]
  exact pk_le x 4 (fun g => ⟨v, nm_e ⟨v, nm_e (h1 g)⟩⟩) h0
theorem tx_set1 {post : Int32 → SX → Prop} {c x : Nat} (h12 : m ≤ 12) (hc : c < m) (hx : x < 2 ^ 31) (h1 : x ≤ 4 → post (li c) ((nI m), aX, ie, se, sf, gf, gt, au, upd li c (nI x), al, ba, po, rv, he, aT, aE, pa, cl, nl, rl, pl)) (h0 : 4 < x → post (-1) ((nI m), aX, ie, se, sf, gf, gt, au, li, al, ba, po, rv, he, aT, aE, pa, cl, nl, rl, pl)) : wpX_set post ((nI m), aX, ie, se, sf, gf, gt, au, li, al, ba, po, rv, he, aT, aE, pa, cl, nl, rl, pl) (nI c) (nI 1) (nI x) := by
  unfold wpX_set
  refine tx_isC1 h12 hc ?_
  refine br_f (by decide) (br_t (nI_pos' hx) (br_f (by decide) (br_f (by decide) ?_)))
  refine br_f (by decide) (br_t (by decide) ?_)
  exact tx_rep1 (by omega) hx h1 h0
theorem ty_set1 {post : Int32 → SY → Prop} {c x : Nat} (h12 : m ≤ 12) (hc : c < m) (hx : x < 2 ^ 31) (h1 : x ≤ 4 → post (te (5 * c + 1)) ((nI m), vY, is, su, ik, sk, fr, tt, upd te (5 * c + 1) (nI x), re, hY, an, le, st, fo, co, ls, ne, na, pY, ro)) (h0 : 4 < x → post (-1) ((nI m), vY, is, su, ik, sk, fr, tt, te, re, hY, an, le, st, fo, co, ls, ne, na, pY, ro)) : wpY_set post ((nI m), vY, is, su, ik, sk, fr, tt, te, re, hY, an, le, st, fo, co, ls, ne, na, pY, ro) (nI c) (nI 1) (nI x) := by
  have e : (nI (5 * c + 1)).toNatClampNeg = 5 * c + 1 := nI_clamp (by omega)
  have v : vp_in (nI (5 * c + 1)) 60 := vp_in_nI (by omega) (by omega)
  unfold wpY_set
  dsimp only
  rw [ty_5k c 1 (x := nI 1) rfl, e]
  refine ty_bC1 h12 hc ?_
  refine br_t rfl (br_f (by decide) (br_f (by decide) (br_f (nI_pos hx) ?_)))
  unfold wpY_most
  refine br_f (by decide) (br_t (by decide) ?_)
  exact pk_le x 4 (fun g => ⟨v, nm_e ⟨v, nm_e (h1 g)⟩⟩) h0
theorem tx_rep2 {post : Int32 → SX → Prop} {c x : Nat} (hc : c < 12) (hx : x < 2 ^ 31) (h1 : x ≤ 255 → post (al c) ((nI m), aX, ie, se, sf, gf, gt, au, li, upd al c (nI x), ba, po, rv, he, aT, aE, pa, cl, nl, rl, pl)) (h0 : 255 < x → post (-1) ((nI m), aX, ie, se, sf, gf, gt, au, li, al, ba, po, rv, he, aT, aE, pa, cl, nl, rl, pl)) : wpX_replace__allowed post ((nI m), aX, ie, se, sf, gf, gt, au, li, al, ba, po, rv, he, aT, aE, pa, cl, nl, rl, pl) (nI c) (nI x) 255 := by
  have e : (nI c).toNatClampNeg = c := nI_clamp (by omega)
  have v : vp_in (nI c) 12 := vp_in_nI (by omega) (by omega)
  unfold wpX_replace__allowed
  dsimp only
  rw [e]
  exact pk_le x 255 (fun g => ⟨v, nm_e ⟨v, nm_e (h1 g)⟩⟩) h0
theorem tx_set2 {post : Int32 → SX → Prop} {c x : Nat} (h12 : m ≤ 12) (hc : c < m) (hx : x < 2 ^ 31) (h1 : x ≤ 255 → post (al c) ((nI m), aX, ie, se, sf, gf, gt, au, li, upd al c (nI x), ba, po, rv, he, aT, aE, pa, cl, nl, rl, pl)) (h0 : 255 < x → post (-1) ((nI m), aX, ie, se, sf, gf, gt, au, li, al, ba, po, rv, he, aT, aE, pa, cl, nl, rl, pl)) : wpX_set post ((nI m), aX, ie, se, sf, gf, gt, au, li, al, ba, po, rv, he, aT, aE, pa, cl, nl, rl, pl) (nI c) (nI 2) (nI x) := by
  unfold wpX_set
  refine tx_isC1 h12 hc ?_
  refine br_f (by decide) (br_t (nI_pos' hx) (br_f (by decide) (br_f (by decide) ?_)))
  refine br_f (by decide) (br_f (by decide) (br_t (by decide) ?_))
  exact tx_rep2 (by omega) hx h1 h0
theorem ty_set2 {post : Int32 → SY → Prop} {c x : Nat} (h12 : m ≤ 12) (hc : c < m) (hx : x < 2 ^ 31) (h1 : x ≤ 255 → post (te (5 * c + 2)) ((nI m), vY, is, su, ik, sk, fr, tt, upd te (5 * c + 2) (nI x), re, hY, an, le, st, fo, co, ls, ne, na, pY, ro)) (h0 : 255 < x → post (-1) ((nI m), vY, is, su, ik, sk, fr, tt, te, re, hY, an, le, st, fo, co, ls, ne, na, pY, ro)) : wpY_set post ((nI m), vY, is, su, ik, sk, fr, tt, te, re, hY, an, le, st, fo, co, ls, ne, na, pY, ro) (nI c) (nI 2) (nI x) := by
  have e : (nI (5 * c + 2)).toNatClampNeg = 5 * c + 2 := nI_clamp (by omega)
  have v : vp_in (nI (5 * c + 2)) 60 := vp_in_nI (by omega) (by omega)
  unfold wpY_set
  dsimp only
  rw [ty_5k c 2 (x := nI 2) rfl, e]
  refine ty_bC1 h12 hc ?_
  refine br_t rfl (br_f (by decide) (br_f (by decide) (br_f (nI_pos hx) ?_)))
  unfold wpY_most
  refine br_f (by decide) (br_f (by decide) (br_f (by decide) ?_))
  exact pk_le x 255 (fun g => ⟨v, nm_e ⟨v, nm_e (h1 g)⟩⟩) h0
theorem tx_rep3 {post : Int32 → SX → Prop} {c x : Nat} (hc : c < 12) (hx : x < 2 ^ 31) (h1 : x ≤ 255 → post (ba c) ((nI m), aX, ie, se, sf, gf, gt, au, li, al, upd ba c (nI x), po, rv, he, aT, aE, pa, cl, nl, rl, pl)) (h0 : 255 < x → post (-1) ((nI m), aX, ie, se, sf, gf, gt, au, li, al, ba, po, rv, he, aT, aE, pa, cl, nl, rl, pl)) : wpX_replace__barred post ((nI m), aX, ie, se, sf, gf, gt, au, li, al, ba, po, rv, he, aT, aE, pa, cl, nl, rl, pl) (nI c) (nI x) 255 := by
  have e : (nI c).toNatClampNeg = c := nI_clamp (by omega)
  have v : vp_in (nI c) 12 := vp_in_nI (by omega) (by omega)
  unfold wpX_replace__barred
  dsimp only
  rw [e]
  exact pk_le x 255 (fun g => ⟨v, nm_e ⟨v, nm_e (h1 g)⟩⟩) h0
theorem tx_set3 {post : Int32 → SX → Prop} {c x : Nat} (h12 : m ≤ 12) (hc : c < m) (hx : x < 2 ^ 31) (h1 : x ≤ 255 → post (ba c) ((nI m), aX, ie, se, sf, gf, gt, au, li, al, upd ba c (nI x), po, rv, he, aT, aE, pa, cl, nl, rl, pl)) (h0 : 255 < x → post (-1) ((nI m), aX, ie, se, sf, gf, gt, au, li, al, ba, po, rv, he, aT, aE, pa, cl, nl, rl, pl)) : wpX_set post ((nI m), aX, ie, se, sf, gf, gt, au, li, al, ba, po, rv, he, aT, aE, pa, cl, nl, rl, pl) (nI c) (nI 3) (nI x) := by
  unfold wpX_set
  refine tx_isC1 h12 hc ?_
  refine br_f (by decide) (br_t (nI_pos' hx) (br_f (by decide) (br_f (by decide) ?_)))
  refine br_f (by decide) (br_f (by decide) (br_f (by decide) (br_t (by decide) ?_)))
  exact tx_rep3 (by omega) hx h1 h0
theorem ty_set3 {post : Int32 → SY → Prop} {c x : Nat} (h12 : m ≤ 12) (hc : c < m) (hx : x < 2 ^ 31) (h1 : x ≤ 255 → post (te (5 * c + 3)) ((nI m), vY, is, su, ik, sk, fr, tt, upd te (5 * c + 3) (nI x), re, hY, an, le, st, fo, co, ls, ne, na, pY, ro)) (h0 : 255 < x → post (-1) ((nI m), vY, is, su, ik, sk, fr, tt, te, re, hY, an, le, st, fo, co, ls, ne, na, pY, ro)) : wpY_set post ((nI m), vY, is, su, ik, sk, fr, tt, te, re, hY, an, le, st, fo, co, ls, ne, na, pY, ro) (nI c) (nI 3) (nI x) := by
  have e : (nI (5 * c + 3)).toNatClampNeg = 5 * c + 3 := nI_clamp (by omega)
  have v : vp_in (nI (5 * c + 3)) 60 := vp_in_nI (by omega) (by omega)
  unfold wpY_set
  dsimp only
  rw [ty_5k c 3 (x := nI 3) rfl, e]
  refine ty_bC1 h12 hc ?_
  refine br_t rfl (br_f (by decide) (br_f (by decide) (br_f (nI_pos hx) ?_)))
  unfold wpY_most
  refine br_f (by decide) (br_f (by decide) (br_f (by decide) ?_))
  exact pk_le x 255 (fun g => ⟨v, nm_e ⟨v, nm_e (h1 g)⟩⟩) h0
theorem tx_rep4 {post : Int32 → SX → Prop} {c x : Nat} (hc : c < 12) (hx : x < 2 ^ 31) (h1 : x ≤ 15 → post (po c) ((nI m), aX, ie, se, sf, gf, gt, au, li, al, ba, upd po c (nI x), rv, he, aT, aE, pa, cl, nl, rl, pl)) (h0 : 15 < x → post (-1) ((nI m), aX, ie, se, sf, gf, gt, au, li, al, ba, po, rv, he, aT, aE, pa, cl, nl, rl, pl)) : wpX_replace__policySet post ((nI m), aX, ie, se, sf, gf, gt, au, li, al, ba, po, rv, he, aT, aE, pa, cl, nl, rl, pl) (nI c) (nI x) 15 := by
  have e : (nI c).toNatClampNeg = c := nI_clamp (by omega)
  have v : vp_in (nI c) 12 := vp_in_nI (by omega) (by omega)
  unfold wpX_replace__policySet
  dsimp only
  rw [e]
  exact pk_le x 15 (fun g => ⟨v, nm_e ⟨v, nm_e (h1 g)⟩⟩) h0
theorem tx_set4 {post : Int32 → SX → Prop} {c x : Nat} (h12 : m ≤ 12) (hc : c < m) (hx : x < 2 ^ 31) (h1 : x ≤ 15 → post (po c) ((nI m), aX, ie, se, sf, gf, gt, au, li, al, ba, upd po c (nI x), rv, he, aT, aE, pa, cl, nl, rl, pl)) (h0 : 15 < x → post (-1) ((nI m), aX, ie, se, sf, gf, gt, au, li, al, ba, po, rv, he, aT, aE, pa, cl, nl, rl, pl)) : wpX_set post ((nI m), aX, ie, se, sf, gf, gt, au, li, al, ba, po, rv, he, aT, aE, pa, cl, nl, rl, pl) (nI c) (nI 4) (nI x) := by
  unfold wpX_set
  refine tx_isC1 h12 hc ?_
  refine br_f (by decide) (br_t (nI_pos' hx) (br_f (by decide) (br_f (by decide) ?_)))
  refine br_f (by decide) (br_f (by decide) (br_f (by decide) (br_f (by decide) (br_t (by decide) ?_))))
  exact tx_rep4 (by omega) hx h1 h0
theorem ty_set4 {post : Int32 → SY → Prop} {c x : Nat} (h12 : m ≤ 12) (hc : c < m) (hx : x < 2 ^ 31) (h1 : x ≤ 15 → post (te (5 * c + 4)) ((nI m), vY, is, su, ik, sk, fr, tt, upd te (5 * c + 4) (nI x), re, hY, an, le, st, fo, co, ls, ne, na, pY, ro)) (h0 : 15 < x → post (-1) ((nI m), vY, is, su, ik, sk, fr, tt, te, re, hY, an, le, st, fo, co, ls, ne, na, pY, ro)) : wpY_set post ((nI m), vY, is, su, ik, sk, fr, tt, te, re, hY, an, le, st, fo, co, ls, ne, na, pY, ro) (nI c) (nI 4) (nI x) := by
  have e : (nI (5 * c + 4)).toNatClampNeg = 5 * c + 4 := nI_clamp (by omega)
  have v : vp_in (nI (5 * c + 4)) 60 := vp_in_nI (by omega) (by omega)
  unfold wpY_set
  dsimp only
  rw [ty_5k c 4 (x := nI 4) rfl, e]
  refine ty_bC1 h12 hc ?_
  refine br_t rfl (br_f (by decide) (br_f (by decide) (br_f (nI_pos hx) ?_)))
  unfold wpY_most
  refine br_f (by decide) (br_f (by decide) (br_t (by decide) ?_))
  exact pk_le x 15 (fun g => ⟨v, nm_e ⟨v, nm_e (h1 g)⟩⟩) h0
theorem tx_revoke_c {post : Int32 → SX → Prop} {v1 v2 : Int32} (hb : v1 < 0 ∨ nI m ≤ v1) (h : post (-1) ((nI m), aX, ie, se, sf, gf, gt, au, li, al, ba, po, rv, he, aT, aE, pa, cl, nl, rl, pl)) : wpX_revoke post ((nI m), aX, ie, se, sf, gf, gt, au, li, al, ba, po, rv, he, aT, aE, pa, cl, nl, rl, pl) v1 v2 := by
  unfold wpX_revoke
  refine tx_isC0 hb ?_
  exact br_t rfl h
theorem ty_revoke_c {post : Int32 → SY → Prop} {v1 v2 : Int32} (hb : v1 < 0 ∨ nI m ≤ v1) (h : post (-1) ((nI m), vY, is, su, ik, sk, fr, tt, te, re, hY, an, le, st, fo, co, ls, ne, na, pY, ro)) : wpY_revoke post ((nI m), vY, is, su, ik, sk, fr, tt, te, re, hY, an, le, st, fo, co, ls, ne, na, pY, ro) v1 v2 := by
  unfold wpY_revoke
  refine ty_bC0 hb ?_
  exact br_f (by decide) h
theorem tx_revoke_t {post : Int32 → SX → Prop} {c : Nat} {v2 : Int32} (h12 : m ≤ 12) (hc : c < m) (hb : v2 < 0 ∨ nI 101 ≤ v2) (h : post (-1) ((nI m), aX, ie, se, sf, gf, gt, au, li, al, ba, po, rv, he, aT, aE, pa, cl, nl, rl, pl)) : wpX_revoke post ((nI m), aX, ie, se, sf, gf, gt, au, li, al, ba, po, rv, he, aT, aE, pa, cl, nl, rl, pl) (nI c) v2 := by
  unfold wpX_revoke
  refine tx_isC1 h12 hc ?_
  refine br_f (by decide) ?_
  refine tx_isT0 hb ?_
  exact br_t rfl h
theorem ty_revoke_t {post : Int32 → SY → Prop} {c : Nat} {v2 : Int32} (h12 : m ≤ 12) (hc : c < m) (hb : v2 < 0 ∨ nI 101 ≤ v2) (h : post (-1) ((nI m), vY, is, su, ik, sk, fr, tt, te, re, hY, an, le, st, fo, co, ls, ne, na, pY, ro)) : wpY_revoke post ((nI m), vY, is, su, ik, sk, fr, tt, te, re, hY, an, le, st, fo, co, ls, ne, na, pY, ro) (nI c) v2 := by
  unfold wpY_revoke
  refine ty_bC1 h12 hc ?_
  refine br_t rfl ?_
  refine ty_bT0 hb ?_
  exact br_f (by decide) h
theorem tx_revoke {post : Int32 → SX → Prop} {c t : Nat} (h12 : m ≤ 12) (hc : c < m) (ht : t ≤ 100) (h : post (if rv c = 101 then 0 else 1) ((nI m), aX, ie, se, sf, gf, gt, au, li, al, ba, po, upd rv c (nI t), he, aT, aE, pa, cl, nl, rl, pl)) : wpX_revoke post ((nI m), aX, ie, se, sf, gf, gt, au, li, al, ba, po, rv, he, aT, aE, pa, cl, nl, rl, pl) (nI c) (nI t) := by
  have e : (nI c).toNatClampNeg = c := nI_clamp (by omega)
  have v : vp_in (nI c) 12 := vp_in_nI (by omega) (by omega)
  unfold wpX_revoke
  dsimp only
  rw [e]
  refine tx_isC1 h12 hc ?_
  refine br_f (by decide) ?_
  refine tx_isT1 ht ?_
  refine br_f (by decide) ⟨v, nm_e ⟨v, nm_e ?_⟩⟩
  by_cases g : rv c = 101
  · rw [if_pos g] at h
    exact br_t g h
  · rw [if_neg g] at h
    exact br_f g h
theorem ty_revoke {post : Int32 → SY → Prop} {c t : Nat} (h12 : m ≤ 12) (hc : c < m) (ht : t ≤ 100) (h : post (if 1000 ≤ re c then 0 else 1) ((nI m), vY, is, su, ik, sk, fr, tt, te, upd re c (nI t), hY, an, le, st, fo, co, ls, ne, na, pY, ro)) : wpY_revoke post ((nI m), vY, is, su, ik, sk, fr, tt, te, re, hY, an, le, st, fo, co, ls, ne, na, pY, ro) (nI c) (nI t) := by
  have e : (nI c).toNatClampNeg = c := nI_clamp (by omega)
  have v : vp_in (nI c) 12 := vp_in_nI (by omega) (by omega)
  unfold wpY_revoke
  dsimp only
  rw [e]
  refine ty_bC1 h12 hc ?_
  refine br_t rfl ?_
  refine ty_bT1 ht ?_
  refine br_t rfl ⟨v, ?_⟩
  by_cases g : 1000 ≤ re c
  · rw [if_pos g] at h
    refine br_t g ?_
    unfold wY_revoke_35
    rw [e]
    exact ⟨v, nm_e h⟩
  · rw [if_neg g] at h
    refine br_f g ?_
    unfold wY_revoke_35
    rw [e]
    exact ⟨v, nm_e h⟩
theorem tx_hold_c {post : Int32 → SX → Prop} {v1 v2 : Int32} (hb : v1 < 0 ∨ nI m ≤ v1) (h : post (-1) ((nI m), aX, ie, se, sf, gf, gt, au, li, al, ba, po, rv, he, aT, aE, pa, cl, nl, rl, pl)) : wpX_hold post ((nI m), aX, ie, se, sf, gf, gt, au, li, al, ba, po, rv, he, aT, aE, pa, cl, nl, rl, pl) v1 v2 := by
  unfold wpX_hold
  refine tx_isC0 hb ?_
  exact br_t rfl h
theorem ty_hold_c {post : Int32 → SY → Prop} {v1 v2 : Int32} (hb : v1 < 0 ∨ nI m ≤ v1) (h : post (-1) ((nI m), vY, is, su, ik, sk, fr, tt, te, re, hY, an, le, st, fo, co, ls, ne, na, pY, ro)) : wpY_hold post ((nI m), vY, is, su, ik, sk, fr, tt, te, re, hY, an, le, st, fo, co, ls, ne, na, pY, ro) v1 v2 := by
  unfold wpY_hold
  refine ty_bC0 hb ?_
  exact br_f (by decide) h
theorem tx_hold {post : Int32 → SX → Prop} {c : Nat} {v2 : Int32} (h12 : m ≤ 12) (hc : c < m) (h : post (if he c = 0 then 0 else 1) ((nI m), aX, ie, se, sf, gf, gt, au, li, al, ba, po, rv, upd he c (vp_nar .boolean v2), aT, aE, pa, cl, nl, rl, pl)) : wpX_hold post ((nI m), aX, ie, se, sf, gf, gt, au, li, al, ba, po, rv, he, aT, aE, pa, cl, nl, rl, pl) (nI c) v2 := by
  have e : (nI c).toNatClampNeg = c := nI_clamp (by omega)
  have v : vp_in (nI c) 12 := vp_in_nI (by omega) (by omega)
  unfold wpX_hold
  dsimp only
  rw [e]
  refine tx_isC1 h12 hc ?_
  refine br_f (by decide) ⟨v, nm_e ⟨v, nm_e ?_⟩⟩
  by_cases g : he c = 0
  · rw [if_pos g] at h
    exact br_t g h
  · rw [if_neg g] at h
    exact br_f g h
theorem ty_hold {post : Int32 → SY → Prop} {c : Nat} {v2 : Int32} (h12 : m ≤ 12) (hc : c < m) (h : post (if hY c = 0 then 0 else 1) ((nI m), vY, is, su, ik, sk, fr, tt, te, re, upd hY c (vp_nar .boolean v2), an, le, st, fo, co, ls, ne, na, pY, ro)) : wpY_hold post ((nI m), vY, is, su, ik, sk, fr, tt, te, re, hY, an, le, st, fo, co, ls, ne, na, pY, ro) (nI c) v2 := by
  have e : (nI c).toNatClampNeg = c := nI_clamp (by omega)
  have v : vp_in (nI c) 12 := vp_in_nI (by omega) (by omega)
  unfold wpY_hold
  dsimp only
  rw [e]
  refine ty_bC1 h12 hc ?_
  refine br_t rfl ⟨v, ?_⟩
  by_cases g : hY c = 0
  · rw [if_pos g] at h
    refine br_t g ?_
    unfold wY_hold_24
    rw [e]
    exact ⟨v, nm_e h⟩
  · rw [if_neg g] at h
    refine br_f g ?_
    unfold wY_hold_24
    rw [e]
    exact ⟨v, nm_e h⟩
theorem tx_anchor_a {post : Int32 → SX → Prop} {v1 v2 : Int32} (hb : v1 < 0 ∨ nI 3 ≤ v1) (h : post (-1) ((nI m), aX, ie, se, sf, gf, gt, au, li, al, ba, po, rv, he, aT, aE, pa, cl, nl, rl, pl)) : wpX_anchor post ((nI m), aX, ie, se, sf, gf, gt, au, li, al, ba, po, rv, he, aT, aE, pa, cl, nl, rl, pl) v1 v2 := by
  unfold wpX_anchor
  refine tx_isA0 hb ?_
  exact br_t rfl h
theorem ty_anchor_a {post : Int32 → SY → Prop} {v1 v2 : Int32} (hb : v1 < 0 ∨ nI 3 ≤ v1) (h : post (-1) ((nI m), vY, is, su, ik, sk, fr, tt, te, re, hY, an, le, st, fo, co, ls, ne, na, pY, ro)) : wpY_anchor post ((nI m), vY, is, su, ik, sk, fr, tt, te, re, hY, an, le, st, fo, co, ls, ne, na, pY, ro) v1 v2 := by
  unfold wpY_anchor
  by_cases z : v1 < 0
  · exact br_t z h
  · exact br_f z (br_t (vq_2 (hb.resolve_left z)) h)
theorem tx_anchor_e {post : Int32 → SX → Prop} {a : Nat} {v2 : Int32} (ha : a < 3) (hb : v2 < 0 ∨ nI 80 ≤ v2) (h : post (-1) ((nI m), aX, ie, se, sf, gf, gt, au, li, al, ba, po, rv, he, aT, aE, pa, cl, nl, rl, pl)) : wpX_anchor post ((nI m), aX, ie, se, sf, gf, gt, au, li, al, ba, po, rv, he, aT, aE, pa, cl, nl, rl, pl) (nI a) v2 := by
  unfold wpX_anchor
  refine tx_isA1 ha ?_
  refine br_f (by decide) ?_
  by_cases z : v2 < 0
  · exact br_t z h
  · exact br_f z (br_f (Int32.not_lt.mpr (hb.resolve_left z)) h)
theorem ty_anchor_e {post : Int32 → SY → Prop} {a : Nat} {v2 : Int32} (ha : a < 3) (hb : v2 < 0 ∨ nI 80 ≤ v2) (h : post (-1) ((nI m), vY, is, su, ik, sk, fr, tt, te, re, hY, an, le, st, fo, co, ls, ne, na, pY, ro)) : wpY_anchor post ((nI m), vY, is, su, ik, sk, fr, tt, te, re, hY, an, le, st, fo, co, ls, ne, na, pY, ro) (nI a) v2 := by
  unfold wpY_anchor
  refine br_f (nI_pos (by omega)) (br_f (nI_nlt (a := 2) (by omega) (by omega)) ?_)
  by_cases z : v2 < 0
  · exact br_t z h
  · exact br_f z (br_f (Int32.not_le.mpr (vq_79 (hb.resolve_left z))) h)
theorem tx_anchor {post : Int32 → SX → Prop} {a e : Nat} (ha : a < 3) (he' : e < 80) (h : post (if aT a = 0 then 0 else 1) ((nI m), aX, ie, se, sf, gf, gt, au, li, al, ba, po, rv, he, upd aT a 1, upd aE a (nI e), pa, cl, nl, rl, pl)) : wpX_anchor post ((nI m), aX, ie, se, sf, gf, gt, au, li, al, ba, po, rv, he, aT, aE, pa, cl, nl, rl, pl) (nI a) (nI e) := by
  have e1 : (nI a).toNatClampNeg = a := nI_clamp (by omega)
  have v : vp_in (nI a) 3 := vp_in_nI (by omega) (by omega)
  unfold wpX_anchor
  dsimp only
  rw [e1, tn_1]
  refine tx_isA1 ha ?_
  refine br_f (by decide) (br_f (nI_pos (by omega)) (br_t (nI_lt (b := 80) he' (by omega)) ⟨v, nm_e ⟨v, nm_e ⟨v, nm_e ?_⟩⟩⟩))
  by_cases g : aT a = 0
  · rw [if_pos g] at h
    exact br_t g h
  · rw [if_neg g] at h
    exact br_f g h
theorem ty_anchor {post : Int32 → SY → Prop} {a e : Nat} (ha : a < 3) (he' : e < 80) (h : post (if an a < 0 then 0 else 1) ((nI m), vY, is, su, ik, sk, fr, tt, te, re, hY, upd an a (nI e), le, st, fo, co, ls, ne, na, pY, ro)) : wpY_anchor post ((nI m), vY, is, su, ik, sk, fr, tt, te, re, hY, an, le, st, fo, co, ls, ne, na, pY, ro) (nI a) (nI e) := by
  have e1 : (nI a).toNatClampNeg = a := nI_clamp (by omega)
  have v : vp_in (nI a) 3 := vp_in_nI (by omega) (by omega)
  unfold wpY_anchor
  dsimp only
  rw [e1]
  refine br_f (nI_pos (by omega)) (br_f (nI_nlt (a := 2) (by omega) (by omega)) (br_f (nI_pos (by omega)) (br_t (nI_le (b := 79) (by omega) (by omega)) ⟨v, ?_⟩)))
  by_cases g : an a < 0
  · rw [if_pos g] at h
    refine br_t g ?_
    unfold wY_anchor_35
    rw [e1]
    exact ⟨v, nm_e h⟩
  · rw [if_neg g] at h
    refine br_f g ?_
    unfold wY_anchor_35
    rw [e1]
    exact ⟨v, nm_e h⟩
theorem tx_distrust_a {post : Int32 → SX → Prop} {v1 : Int32} (hb : v1 < 0 ∨ nI 3 ≤ v1) (h : post (-1) ((nI m), aX, ie, se, sf, gf, gt, au, li, al, ba, po, rv, he, aT, aE, pa, cl, nl, rl, pl)) : wpX_distrust post ((nI m), aX, ie, se, sf, gf, gt, au, li, al, ba, po, rv, he, aT, aE, pa, cl, nl, rl, pl) v1 := by
  unfold wpX_distrust
  refine tx_isA0 hb ?_
  exact br_t rfl h
theorem ty_distrust_a {post : Int32 → SY → Prop} {v1 : Int32} (hb : v1 < 0 ∨ nI 3 ≤ v1) (h : post (-1) ((nI m), vY, is, su, ik, sk, fr, tt, te, re, hY, an, le, st, fo, co, ls, ne, na, pY, ro)) : wpY_distrust post ((nI m), vY, is, su, ik, sk, fr, tt, te, re, hY, an, le, st, fo, co, ls, ne, na, pY, ro) v1 := by
  unfold wpY_distrust
  by_cases z : v1 < 0
  · exact br_t z h
  · exact br_f z (br_f (Int32.not_le.mpr (vq_2 (hb.resolve_left z))) h)
theorem tx_distrust {post : Int32 → SX → Prop} {a : Nat} (ha : a < 3) (h0 : aT a = 0 → post (-2) ((nI m), aX, ie, se, sf, gf, gt, au, li, al, ba, po, rv, he, aT, aE, pa, cl, nl, rl, pl)) (h1 : ¬ aT a = 0 → post 0 ((nI m), aX, ie, se, sf, gf, gt, au, li, al, ba, po, rv, he, upd aT a 0, aE, pa, cl, nl, rl, pl)) : wpX_distrust post ((nI m), aX, ie, se, sf, gf, gt, au, li, al, ba, po, rv, he, aT, aE, pa, cl, nl, rl, pl) (nI a) := by
  have e1 : (nI a).toNatClampNeg = a := nI_clamp (by omega)
  have v : vp_in (nI a) 3 := vp_in_nI (by omega) (by omega)
  unfold wpX_distrust
  dsimp only
  rw [e1, tn_0]
  refine tx_isA1 ha ?_
  exact br_f (by decide) ⟨v, br_c h0 (fun g => ⟨v, nm_e (h1 g)⟩)⟩
theorem ty_distrust {post : Int32 → SY → Prop} {a : Nat} (ha : a < 3) (h0 : ¬ 0 ≤ an a → post (-2) ((nI m), vY, is, su, ik, sk, fr, tt, te, re, hY, an, le, st, fo, co, ls, ne, na, pY, ro)) (h1 : 0 ≤ an a → post 0 ((nI m), vY, is, su, ik, sk, fr, tt, te, re, hY, upd an a (-1), le, st, fo, co, ls, ne, na, pY, ro)) : wpY_distrust post ((nI m), vY, is, su, ik, sk, fr, tt, te, re, hY, an, le, st, fo, co, ls, ne, na, pY, ro) (nI a) := by
  have e1 : (nI a).toNatClampNeg = a := nI_clamp (by omega)
  have v : vp_in (nI a) 3 := vp_in_nI (by omega) (by omega)
  unfold wpY_distrust
  dsimp only
  rw [e1]
  exact br_f (nI_pos (by omega)) (br_t (nI_le (b := 2) (by omega) (by omega)) ⟨v, br_c (fun g => ⟨v, nm_e (h1 g)⟩) h0⟩)
end
