/-! goOn, and the reference's search -/
section
variable {D : tp_D} {vY : Int32} {is su ik sk fr tt te re hY an le st fo co ls ne na pY ro : Nat → Int32} {l : List Nat} {c : Nat}
theorem ty_go162 {post : Int32 → SY → Prop} {r : Nat} {x : Int32} (hS : ty_S D is su ik sk te an) (hl : l.length ≤ 4) (hc : c < tp_m D) (hly : tp_ly D na pY ro l) (h : post 1 ((nI (tp_m D)), vY, is, su, ik, sk, fr, tt, te, re, hY, an, le, st, fo, co, ls, upd ne (l.length + 1) 0, upd na (l.length + 1) (tp_N D (c :: l)), upd pY (l.length + 1) x, upd ro (l.length + 1) (nI r))) : wY_goOn_162 post (nI c) (nI l.length) x (nI r) (nI l.length + 1) (nI (tp_m D)) vY is su ik sk fr tt te re hY an le st fo co ls ne na pY ro := by
  have h12 := hS.1
  obtain ⟨k1, k2, k3, k4, k5, k6, k7, k8, k9, k10, k11⟩ := hS.2 c hc
  have e1 : (nI l.length).toNatClampNeg = l.length := nI_clamp (by omega)
  have e3 : (nI (l.length + 1)).toNatClampNeg = l.length + 1 := nI_clamp (by omega)
  have e4 : (nI (5 * c + 2)).toNatClampNeg = 5 * c + 2 := nI_clamp (by omega)
  have e5 : (nI (5 * c + 3)).toNatClampNeg = 5 * c + 3 := nI_clamp (by omega)
  have v1 : vp_in (nI l.length) 7 := vp_in_nI (by omega) (by omega)
  have v3 : vp_in (nI (l.length + 1)) 7 := vp_in_nI (by omega) (by omega)
  have v4 : vp_in (nI (5 * c + 2)) 60 := vp_in_nI (by omega) (by omega)
  have v5 : vp_in (nI (5 * c + 3)) 60 := vp_in_nI (by omega) (by omega)
  rw [tp_N] at h
  unfold wY_goOn_162
  rw [ty_5k c 2 (x := 2) rfl, ty_5k c 3 (x := 3) rfl, nI_1 l.length, e1, e3, e4, e5, k8, k9, hly.1]
  exact ⟨v3, nm_e ⟨v3, nm_e ⟨v1, v4, v5, v3, nm_e ⟨v3, nm_e h⟩⟩⟩⟩
theorem ty_go116 {post : Int32 → SY → Prop} {r : Nat} {x : Int32} (hS : ty_S D is su ik sk te an) (hl : l.length ≤ 4) (hc : c < tp_m D) (hr : r ≤ 100) (hly : tp_ly D na pY ro l) (h : post 1 ((nI (tp_m D)), vY, is, su, ik, sk, fr, tt, te, re, hY, an, le, st, fo, co, upd ls l.length (nI c), upd ne (l.length + 1) 0, upd na (l.length + 1) (tp_N D (c :: l)), upd pY (l.length + 1) x, upd ro (l.length + 1) (nI (tp_cl (tp_lm D c) r)))) : wY_goOn_116 post (nI c) (nI l.length) (nI r) x (nI (tp_m D)) vY is su ik sk fr tt te re hY an le st fo co ls ne na pY ro := by
  have h12 := hS.1
  obtain ⟨k1, k2, k3, k4, k5, k6, k7, k8, k9, k10, k11⟩ := hS.2 c hc
  have e1 : (nI l.length).toNatClampNeg = l.length := nI_clamp (by omega)
  have e4 : (nI (5 * c + 1)).toNatClampNeg = 5 * c + 1 := nI_clamp (by omega)
  unfold wY_goOn_116
  rw [ty_5k c 1 (x := 1) rfl, e1, e4]
  refine ⟨vp_in_nI (by omega) (by omega), nm_e ⟨vp_in_nI (by omega) (by omega), nm_r k6 ?_⟩⟩
  refine pk_le 4 (tp_lm D c) (fun g => ?_) (fun g => pk_le r (tp_lm D c) (fun g2 => ?_) (fun g2 => ?_))
  · have e : tp_cl (tp_lm D c) r = r := if_neg (by omega)
    rw [e] at h
    exact ty_go162 hS hl hc hly h
  · have e : tp_cl (tp_lm D c) r = r := if_neg (by omega)
    rw [e] at h
    exact ty_go162 hS hl hc hly h
  · have e : tp_cl (tp_lm D c) r = tp_lm D c := if_pos (by omega)
    rw [e] at h
    exact ty_go162 hS hl hc hly h
theorem ty_go42n {post : Int32 → SY → Prop} {z x : Int32} (hS : ty_S D is su ik sk te an) (hl : l.length ≤ 5) (hc : c < tp_m D) (hz : z < 0) (h0 : post 0 ((nI (tp_m D)), vY, is, su, ik, sk, fr, tt, te, re, hY, an, le, st, fo, co, ls, ne, na, pY, ro)) : wY_goOn_42 post (nI c) (nI l.length) x z (nI (tp_m D)) vY is su ik sk fr tt te re hY an le st fo co ls ne na pY ro := by
  have h12 := hS.1
  have v1 : vp_in (nI l.length) 7 := vp_in_nI (by omega) (by omega)
  have v4 : vp_in (nI (5 * c + 4)) 60 := vp_in_nI (by omega) (by omega)
  have v0 : vp_in (nI (5 * c)) 60 := vp_in_nI (by omega) (by omega)
  unfold wY_goOn_42
  rw [ty_5k c 4 (x := 4) rfl, ty_5]
  exact ⟨v1, v4, nm_e (br_c (fun _ => h0) (fun _ => ⟨v0, br_c (fun _ => h0) (fun _ => br_t hz h0)⟩))⟩
theorem ty_go42 {post : Int32 → SY → Prop} {r : Nat} {x : Int32} (hS : ty_S D is su ik sk te an) (hl : l.length ≤ 5) (hc : c < tp_m D) (hr : r ≤ 100) (hly : tp_ly D na pY ro l) (hx : x = 0 ↔ ¬ tp_sf D c = true)
    (h : l.length ≠ 5 → tp_au D c = true → ¬ tp_P D 15 l &&& tp_po D c = 0 → (tp_sf D c = true ∨ tp_nm D l c = true) → post 1 ((nI (tp_m D)), vY, is, su, ik, sk, fr, tt, te, re, hY, an, le, st, fo, co, upd ls l.length (nI c), upd ne (l.length + 1) 0, upd na (l.length + 1) (tp_N D (c :: l)), upd pY (l.length + 1) (tp_P D 15 (c :: l)), upd ro (l.length + 1) (nI (tp_cl (tp_lm D c) r))))
    (h0 : ¬ (l.length ≠ 5 ∧ tp_au D c = true ∧ (¬ tp_P D 15 l &&& tp_po D c = 0) ∧ (tp_sf D c = true ∨ tp_nm D l c = true)) → post 0 ((nI (tp_m D)), vY, is, su, ik, sk, fr, tt, te, re, hY, an, le, st, fo, co, ls, ne, na, pY, ro)) : wY_goOn_42 post (nI c) (nI l.length) x (nI r) (nI (tp_m D)) vY is su ik sk fr tt te re hY an le st fo co ls ne na pY ro := by
  have h12 := hS.1
  obtain ⟨k1, k2, k3, k4, k5, k6, k7, k8, k9, k10, k11⟩ := hS.2 c hc
  have e1 : (nI l.length).toNatClampNeg = l.length := nI_clamp (by omega)
  have e2 : (nI c).toNatClampNeg = c := nI_clamp (by omega)
  have e4 : (nI (5 * c + 4)).toNatClampNeg = 5 * c + 4 := nI_clamp (by omega)
  have e5 : (nI (5 * c)).toNatClampNeg = 5 * c := nI_clamp (by omega)
  have v1 : vp_in (nI l.length) 7 := vp_in_nI (by omega) (by omega)
  have v2 : vp_in (nI c) 12 := vp_in_nI (by omega) (by omega)
  unfold wY_goOn_42
  rw [ty_5k c 4 (x := 4) rfl, ty_5, e1, e2, e4, e5, k10, hly.2.1, hly.1]
  refine ⟨v1, vp_in_nI (by omega) (by omega), nm_e ?_⟩
  refine pk_eq l.length 5 (fun g => h0 (fun z => z.1 g)) (fun g => ⟨vp_in_nI (by omega) (by omega), ?_⟩)
  by_cases ha : te (5 * c) = 0
  · exact br_t ha (h0 (fun z => (k5.mp ha) z.2.1))
  have ha2 : tp_au D c = true := Classical.byContradiction (fun z => ha (k5.mpr z))
  refine br_f ha (br_f (nI_pos (by omega)) ?_)
  by_cases hp : tp_P D 15 l &&& tp_po D c = 0
  · exact br_t hp (h0 (fun z => z.2.2.1 hp))
  refine br_f hp ?_
  by_cases hs : x = 0
  · have hs2 := hx.mp hs
    refine br_t hs ⟨v1, v2, ?_⟩
    refine ty_has (fun q => ?_) (fun q => ?_)
    · rw [← k3] at q
      refine br_f (by decide) ?_
      exact ty_go116 hS (by omega) hc hr hly (h g ha2 hp (Or.inr (decide_eq_true q)))
    · rw [← k3] at q
      refine br_t rfl (h0 (fun z => ?_))
      rcases z.2.2.2 with y | y
      · exact hs2 y
      · exact q (of_decide_eq_true y)
  · have hs2 : tp_sf D c = true := Classical.byContradiction (fun z => hs (hx.mpr z))
    exact br_f hs (ty_go116 hS (by omega) hc hr hly (h g ha2 hp (Or.inl hs2)))
theorem ty_goOn {post : Int32 → SY → Prop} (hS : ty_S D is su ik sk te an) (hl : l.length ≤ 5) (hc : c < tp_m D) (hly : tp_ly D na pY ro l)
    (h : l.length ≠ 5 → tp_au D c = true → ¬ tp_P D 15 l &&& tp_po D c = 0 → (tp_sf D c = true ∨ (0 < tp_R D 100 l ∧ tp_nm D l c = true)) → post 1 ((nI (tp_m D)), vY, is, su, ik, sk, fr, tt, te, re, hY, an, le, st, fo, co, upd ls l.length (nI c), upd ne (l.length + 1) 0, upd na (l.length + 1) (tp_N D (c :: l)), upd pY (l.length + 1) (tp_P D 15 (c :: l)), upd ro (l.length + 1) (nI (tp_R D 100 (c :: l)))))
    (h0 : ¬ (l.length ≠ 5 ∧ tp_au D c = true ∧ (¬ tp_P D 15 l &&& tp_po D c = 0) ∧ (tp_sf D c = true ∨ (0 < tp_R D 100 l ∧ tp_nm D l c = true))) → post 0 ((nI (tp_m D)), vY, is, su, ik, sk, fr, tt, te, re, hY, an, le, st, fo, co, ls, ne, na, pY, ro)) : wpY_goOn post ((nI (tp_m D)), vY, is, su, ik, sk, fr, tt, te, re, hY, an, le, st, fo, co, ls, ne, na, pY, ro) (nI c) (nI l.length) := by
  have h12 := hS.1
  obtain ⟨k1, k2, k3, k4, k5, k6, k7, k8, k9, k10, k11⟩ := hS.2 c hc
  have e1 : (nI l.length).toNatClampNeg = l.length := nI_clamp (by omega)
  have e2 : (nI c).toNatClampNeg = c := nI_clamp (by omega)
  have v1 : vp_in (nI l.length) 7 := vp_in_nI (by omega) (by omega)
  have v2 : vp_in (nI c) 12 := vp_in_nI (by omega) (by omega)
  have hR := tp_R_le D 100 l
  rw [tp_R] at h
  unfold wpY_goOn
  dsimp only
  rw [e2]
  refine ⟨v2, v2, ?_⟩
  by_cases hs : is c = su c
  · have hs2 := k4.mp hs
    rw [if_pos hs2] at h
    refine br_t hs (br_f (by decide) ?_)
    rw [e1, hly.2.2]
    refine ⟨v1, ty_go42 hS hl hc (by omega) hly ⟨fun z => absurd z (by decide), fun z => absurd hs2 z⟩ (fun g1 g2 g3 g4 => h g1 g2 g3 (Or.inl hs2)) (fun g => h0 (fun z => g ⟨z.1, z.2.1, z.2.2.1, Or.inl hs2⟩))⟩
  · have hs2 : ¬ tp_sf D c = true := fun z => hs (k4.mpr z)
    rw [if_neg hs2] at h
    refine br_f hs (br_t rfl ?_)
    rw [e1, hly.2.2]
    refine ⟨v1, ?_⟩
    by_cases h100 : 0 < tp_R D 100 l
    · have e4 : nI (tp_R D 100 l) - 1 = nI (tp_R D 100 l - 1) := by
        have := nI_pred (tp_R D 100 l - 1)
        rw [Nat.sub_add_cancel h100] at this
        exact this
      rw [e4]
      refine ty_go42 hS hl hc (by omega) hly ⟨fun _ => hs2, fun _ => rfl⟩ (fun g1 g2 g3 g4 => h g1 g2 g3 (Or.inr ⟨h100, ?_⟩)) (fun g => h0 (fun z => g ⟨z.1, z.2.1, z.2.2.1, ?_⟩))
      · exact g4.resolve_left hs2
      · exact Or.inr (z.2.2.2.resolve_left hs2).2
    · have e4 : tp_R D 100 l = 0 := by omega
      refine ty_go42n hS hl hc (by rw [e4]; decide) (h0 (fun z => ?_))
      rcases z.2.2.2 with y | y
      · exact hs2 y
      · exact h100 y.1
end
/-- the steps of a node with k levels -/
def ty_K : Nat → Nat
  | 0 => 0
  | k + 1 => 12 * (ty_K k + 1) + 1
def ty_f (D : tp_D) (U : Int32) (k : Nat) (l : List Nat) (c : Nat) : List (List Nat) := (if tp_en D (bt U) 15 l c = true then [c :: l] else []) ++ (if tp_go D (bt U) 15 l c = true then tp_E D (bt U) k (c :: l) else [])
section
variable {D : tp_D} {U : Int32} {is su ik sk fr tt te re hY an : Nat → Int32}
/-- a node: if what comes behind it goes well from N0 steps on, so does the node with M more -/
def ty_Node (D : tp_D) (U : Int32) (is su ik sk fr tt te re hY an : Nat → Int32) (post : SY → Prop) (ev L : List (List Nat)) (M : Nat) (l : List Nat) (le st fo co ls ne na pY ro : Nat → Int32) : Prop :=
  ∀ N0, (∀ le' st' fo' co' ls' ne' na' pY' ro', ty_R D (ev ++ L) le' st' fo' co' → (∀ i, i < l.length → ls' i = ls i ∧ ne' i = ne i) → (∀ i, i ≤ l.length → na' i = na i ∧ pY' i = pY i ∧ ro' i = ro i) → ∀ n', N0 ≤ n' → wY_search_74 post n' (nI l.length + (-1)) (nI (tp_m D)) U is su ik sk fr tt te re hY an le' st' fo' co' ls' ne' na' pY' ro') → ∀ n, N0 + M ≤ n → wY_search_74 post n (nI l.length) (nI (tp_m D)) U is su ik sk fr tt te re hY an le st fo co ls ne na pY ro
theorem ty_cand {post : SY → Prop} {k : Nat} (hS : ty_S D is su ik sk te an)
    (IH : 0 < k → ∀ (l : List Nat) (ev : List (List Nat)) (le st fo co ls ne na pY ro : Nat → Int32), l.length + k = 6 → tp_st ls l → ne l.length = 0 → (∀ y, y ∈ l → y < tp_m D) → tp_LY D na pY ro l → ty_R D ev le st fo co → ty_Node D U is su ik sk fr tt te re hY an post ev (tp_E D (bt U) k l) (ty_K k) l le st fo co ls ne na pY ro) :
    ∀ (j c : Nat) (l : List Nat) (ev : List (List Nat)) (le st fo co ls ne na pY ro : Nat → Int32), c + j = tp_m D → l.length + (k + 1) = 6 → tp_st ls l → ne l.length = nI c → (∀ y, y ∈ l → y < tp_m D) → tp_LY D na pY ro l → ty_R D ev le st fo co → ty_Node D U is su ik sk fr tt te re hY an post ev (tp_fm (ty_f D U k l) j c) (j * (ty_K k + 1) + 1) l le st fo co ls ne na pY ro := by
  have h12 := hS.1
  intro j
  induction j with
  | zero =>
    intro c l ev le st fo co ls ne na pY ro hcj hk hst hne hm hLY hR N0 hr n hn
    obtain ⟨n, rfl⟩ : ∃ k, n = k + 1 := ⟨n - 1, by omega⟩
    have e1 : (nI l.length).toNatClampNeg = l.length := nI_clamp (by omega)
    have v1 : vp_in (nI l.length) 7 := vp_in_nI (by omega) (by omega)
    rw [wY_search_74]
    dsimp only
    rw [e1]
    refine br_f (nI_pos (by omega)) ⟨v1, nm_r hne ⟨v1, v1, nm_e (br_f (nI_nlt (by omega) (by omega)) (nm_e ?_))⟩⟩
    refine hr le st fo co ls _ na pY ro ?_ (fun i hi => ⟨rfl, pk_un (by omega)⟩) (fun i _ => ⟨rfl, rfl, rfl⟩) n (by omega)
    rw [tp_fm, List.append_nil]
    exact hR
  | succ j ih =>
    intro c l ev le st fo co ls ne na pY ro hcj hk hst hne hm hLY hR N0 hr n hn
    obtain ⟨n, rfl⟩ : ∃ k, n = k + 1 := ⟨n - 1, by omega⟩
    have hly := tp_LY_top l hLY
    have hc : c < tp_m D := by omega
    have e1 : (nI l.length).toNatClampNeg = l.length := nI_clamp (by omega)
    have v1 : vp_in (nI l.length) 7 := vp_in_nI (by omega) (by omega)
    have hmul : (j + 1) * (ty_K k + 1) = j * (ty_K k + 1) + (ty_K k + 1) := by rw [Nat.add_mul, Nat.one_mul]
    rw [tp_fm] at hr
    -- the walk goes on at c + 1 with the events ev'
    have nx : ∀ (ev' : List (List Nat)) (le' st' fo' co' ls' ne' na' pY' ro' : Nat → Int32), ev' = ev ++ ty_f D U k l c → ty_R D ev' le' st' fo' co' → (∀ i, i < l.length → ls' i = ls i ∧ ne' i = ne i) → ne' l.length = nI (c + 1) → (∀ i, i ≤ l.length → na' i = na i ∧ pY' i = pY i ∧ ro' i = ro i) → ∀ n', N0 + (j * (ty_K k + 1) + 1) ≤ n' → wY_search_74 post n' (nI l.length) (nI (tp_m D)) U is su ik sk fr tt te re hY an le' st' fo' co' ls' ne' na' pY' ro' := by
      intro ev' le' st' fo' co' ls' ne' na' pY' ro' hev hR' g1 g2 g3 n' hn'
      refine ih (c + 1) l ev' le' st' fo' co' ls' ne' na' pY' ro' (by omega) hk (tp_st_congr l (fun i hi => (g1 i hi).1) hst) g2 hm (tp_LY_congr l g3 hLY) hR' N0 ?_ n' hn'
      intro le2 st2 fo2 co2 ls2 ne2 na2 pY2 ro2 f1 f2 f3 n2 f4
      refine hr le2 st2 fo2 co2 ls2 ne2 na2 pY2 ro2 ?_ ?_ ?_ n2 f4
      · rw [hev, List.append_assoc] at f1
        exact f1
      · intro i hi
        exact ⟨(f2 i hi).1.trans (g1 i hi).1, (f2 i hi).2.trans (g1 i hi).2⟩
      · intro i hi
        obtain ⟨a1, a2, a3⟩ := f3 i hi
        obtain ⟨b1, b2, b3⟩ := g3 i hi
        exact ⟨a1.trans b1, a2.trans b2, a3.trans b3⟩
    have hp : ∀ i, i < l.length → ls i = ls i ∧ upd ne l.length (nI c + 1) i = ne i := fun i hi => ⟨rfl, pk_un (by omega)⟩
    have hq : upd ne l.length (nI c + 1) l.length = nI (c + 1) := by rw [pk_us, nI_1]
    -- nothing comes of c
    have no : ¬ tp_lk D (bt U) 15 l c = true → wY_search_74 post n (nI l.length) (nI (tp_m D)) U is su ik sk fr tt te re hY an le st fo co ls (upd ne l.length (nI c + 1)) na pY ro := by
      intro z
      refine nx ev le st fo co ls _ na pY ro ?_ hR hp hq (fun i _ => ⟨rfl, rfl, rfl⟩) n (by omega)
      unfold ty_f
      rw [if_neg (fun g => z (tp_en_iff.mp g).1), if_neg (fun g => z (tp_go_iff.mp g).1), List.append_nil, List.append_nil]
    rw [wY_search_74]
    dsimp only
    rw [e1, hne]
    refine br_f (nI_pos (by omega)) ⟨v1, nm_e ⟨v1, v1, nm_e (br_t (nI_lt (by omega) (by omega)) ?_)⟩⟩
    refine ty_has (fun b1 => ?_) (fun b1 => ?_)
    case _ =>
      refine br_f (by decide) ?_
      have hu : bt U c = true := (tb_has _ (by omega)).mp b1
      refine ty_follows hS (by omega) hc hst hm (fun b2 => ?_) (fun b2 => ?_)
      case _ =>
        refine br_f (by decide) ?_
        refine ty_used (by omega) (by omega) hst (fun y hy => Nat.lt_of_lt_of_le (hm y hy) h12) (fun b3 => ?_) (fun b3 => ?_)
        case _ => exact br_f (by decide) (no (fun z => (tp_lk_iff.mp z).2.1 b3))
        case _ =>
          refine br_t rfl ?_
          -- after end: the events ev1, then goOn
          have go : ∀ (le' st' fo' co' : Nat → Int32), ty_R D (ev ++ (if tp_en D (bt U) 15 l c = true then [c :: l] else [])) le' st' fo' co' → wpY_goOn (fun r u => match u with | (m2, vY2, is2, su2, ik2, sk2, fr2, tt2, te2, re2, hY2, an2, le2, st2, fo2, co2, ls2, ne2, na2, pY2, ro2) => ((r = 0 → wY_search_74 post n (nI l.length) m2 vY2 is2 su2 ik2 sk2 fr2 tt2 te2 re2 hY2 an2 le2 st2 fo2 co2 ls2 ne2 na2 pY2 ro2) ∧ (¬ r = 0 → ∀ x2 : Int32, x2 = nI l.length + 1 → wY_search_74 post n x2 m2 vY2 is2 su2 ik2 sk2 fr2 tt2 te2 re2 hY2 an2 le2 st2 fo2 co2 ls2 ne2 na2 pY2 ro2))) ((nI (tp_m D)), U, is, su, ik, sk, fr, tt, te, re, hY, an, le', st', fo', co', ls, upd ne l.length (nI c + 1), na, pY, ro) (nI c) (nI l.length) := by
            intro le' st' fo' co' hR'
            refine ty_goOn hS (by omega) hc hly (fun q1 q2 q3 q4 => ?_) (fun q => ?_)
            · have hgo : tp_go D (bt U) 15 l c = true := tp_go_iff.mpr ⟨tp_lk_iff.mpr ⟨hu, b3, b2, q3⟩, q2, q4⟩
              refine br_f (by decide) (nm_r (nI_1 l.length) ?_)
              have hl1 : (c :: l).length = l.length + 1 := List.length_cons
              have hIH := IH (by omega) (c :: l) _ le' st' fo' co' (upd ls l.length (nI c)) (upd (upd ne l.length (nI c + 1)) (l.length + 1) 0) (upd na (l.length + 1) (tp_N D (c :: l))) (upd pY (l.length + 1) (tp_P D 15 (c :: l))) (upd ro (l.length + 1) (nI (tp_R D 100 (c :: l)))) (by omega) ⟨pk_us, tp_st_congr l (fun i hi => pk_un (by omega)) hst⟩ (by rw [hl1]; exact pk_us) ?_ ⟨⟨by rw [hl1]; exact pk_us, by rw [hl1]; exact pk_us, by rw [hl1]; exact pk_us⟩, tp_LY_congr l (fun i hi => ⟨pk_un (by omega), pk_un (by omega), pk_un (by omega)⟩) hLY⟩ hR'
              · refine hIH (N0 + (j * (ty_K k + 1) + 1)) ?_ n (by omega)
                intro le2 st2 fo2 co2 ls2 ne2 na2 pY2 ro2 f1 f2 f3 n2 f4
                have ep : nI (c :: l).length + (-1) = nI l.length := pk_m1 l.length
                rw [ep]
                refine nx _ le2 st2 fo2 co2 ls2 ne2 na2 pY2 ro2 ?_ f1 ?_ ?_ ?_ n2 f4
                · unfold ty_f
                  rw [if_pos hgo, List.append_assoc]
                · intro i hi
                  obtain ⟨a1, a2⟩ := f2 i (by omega)
                  exact ⟨a1.trans (pk_un (by omega)), a2.trans ((pk_un (by omega)).trans (pk_un (by omega)))⟩
                · rw [(f2 l.length (by omega)).2, pk_un (by omega), hq]
                · intro i hi
                  obtain ⟨a1, a2, a3⟩ := f3 i (by omega)
                  exact ⟨a1.trans (pk_un (by omega)), a2.trans (pk_un (by omega)), a3.trans (pk_un (by omega))⟩
              · intro y hy
                rcases List.mem_cons.mp hy with hy | hy
                · rw [hy]; exact hc
                · exact hm y hy
            · refine br_t rfl ?_
              refine nx _ le' st' fo' co' ls _ na pY ro ?_ hR' hp hq (fun i _ => ⟨rfl, rfl, rfl⟩) n (by omega)
              unfold ty_f
              by_cases hgo : tp_go D (bt U) 15 l c = true
              · have g1 := tp_go_iff.mp hgo
                have g2 := tp_lk_iff.mp g1.1
                have hk0 : k = 0 := by
                  apply Classical.byContradiction
                  intro hk0
                  exact q ⟨by omega, g1.2.1, g2.2.2.2, g1.2.2⟩
                subst hk0
                rw [if_pos hgo, tp_E, List.append_nil]
              · rw [if_neg hgo, List.append_nil]
          refine ty_end hS (by omega) hc hst hm hly hR (fun c1 c2 le' st' fo' co' hR' => ?_) (fun c1 => ?_)
          · have hen : tp_en D (bt U) 15 l c = true := tp_en_iff.mpr ⟨tp_lk_iff.mpr ⟨hu, b3, b2, c1⟩, c2⟩
            exact go le' st' fo' co' (by rw [if_pos hen]; exact hR')
          · have hen : ¬ tp_en D (bt U) 15 l c = true := by
              intro z
              have z1 := tp_en_iff.mp z
              exact c1 ⟨(tp_lk_iff.mp z1.1).2.2.2, z1.2⟩
            exact go le st fo co (by rw [if_neg hen, List.append_nil]; exact hR)
      case _ => exact br_t rfl (no (fun z => b2 (tp_lk_iff.mp z).2.2.1))
    case _ => exact br_t rfl (no (fun z => b1 ((tb_has _ (by omega)).mpr (tp_lk_iff.mp z).1)))
theorem ty_node {post : SY → Prop} (hS : ty_S D is su ik sk te an) : ∀ (k : Nat), 0 < k → ∀ (l : List Nat) (ev : List (List Nat)) (le st fo co ls ne na pY ro : Nat → Int32), l.length + k = 6 → tp_st ls l → ne l.length = 0 → (∀ y, y ∈ l → y < tp_m D) → tp_LY D na pY ro l → ty_R D ev le st fo co → ty_Node D U is su ik sk fr tt te re hY an post ev (tp_E D (bt U) k l) (ty_K k) l le st fo co ls ne na pY ro := by
  intro k
  induction k with
  | zero => intro h; omega
  | succ k ih =>
    intro _ l ev le st fo co ls ne na pY ro hk hst hne hm hLY hR N0 hr n hn
    have h12 := hS.1
    have hM : tp_m D * (ty_K k + 1) ≤ 12 * (ty_K k + 1) := Nat.mul_le_mul_right _ h12
    have hM2 : ty_K (k + 1) = 12 * (ty_K k + 1) + 1 := rfl
    exact ty_cand (U := U) hS ih (tp_m D) 0 l ev le st fo co ls ne na pY ro (by omega) hk hst hne hm hLY hR N0 hr n (by omega)
theorem ty_search7 {post : SY → Prop} (hS : ty_S D is su ik sk te an) (H : ∀ le st fo co ls ne na pY ro, ty_R D (tp_E D (bt U) 6 []) le st fo co → post ((nI (tp_m D)), U, is, su, ik, sk, fr, tt, te, re, hY, an, le, st, fo, co, ls, ne, na, pY, ro)) : ∀ (j i : Nat) (le st fo co ls ne na pY ro : Nat → Int32) (n : Nat), i + j = 12 → j < n → (∀ e, e < i → le e = 0 ∧ fo e = 0) → wY_search_7 post (nI (tp_m D)) U n (nI i) is su ik sk fr tt te re hY an le st fo co ls ne na pY ro := by
  intro j
  induction j with
  | zero =>
    intro i le st fo co ls ne na pY ro n hj hn h0
    obtain ⟨n, rfl⟩ : ∃ k, n = k + 1 := ⟨n - 1, by omega⟩
    refine br_t (nI_le (a := 12) (by omega) (by omega)) (nm_e (nm_e (nm_e (nm_e ⟨1 + ty_K 6, ?_⟩))))
    have h := ty_node (U := U) (post := post) (fr := fr) (tt := tt) (re := re) (hY := hY) hS 6 (by omega) [] [] le st fo co ls (upd ne 0 0) (upd na 0 255) (upd pY 0 15) (upd ro 0 100) rfl True.intro pk_us (fun y hy => absurd hy (List.not_mem_nil)) ⟨pk_us, pk_us, pk_us⟩ (fun T hT => tp_Z_0 (h0 T (by omega)).1 (h0 T (by omega)).2)
    refine h 1 ?_ _ (Nat.le_refl _)
    intro le' st' fo' co' ls' ne' na' pY' ro' f1 _ _ n' hn'
    obtain ⟨n, rfl⟩ : ∃ k, n' = k + 1 := ⟨n' - 1, by omega⟩
    exact br_t (by decide) (H le' st' fo' co' ls' ne' na' pY' ro' f1)
  | succ j ih =>
    intro i le st fo co ls ne na pY ro n hj hn h0
    obtain ⟨n, rfl⟩ : ∃ k, n = k + 1 := ⟨n - 1, by omega⟩
    have e1 : (nI i).toNatClampNeg = i := nI_clamp (by omega)
    have v : vp_in (nI i) 12 := vp_in_nI (by omega) (by omega)
    rw [wY_search_7]
    dsimp only
    rw [e1]
    refine br_f (nI_ge (b := 12) (by omega) (by omega)) ⟨v, nm_e ⟨v, nm_e ⟨v, nm_e (nm_r (nI_1 i) (ih (i + 1) _ st _ _ ls ne na pY ro n (by omega) (by omega) ?_))⟩⟩⟩
    intro e he
    by_cases z : e = i
    · rw [z]; exact ⟨pk_us, pk_us⟩
    · rw [pk_un z, pk_un z]
      exact h0 e (by omega)
theorem ty_search {post : SY → Prop} {vY : Int32} {le st fo co ls ne na pY ro : Nat → Int32} (hS : ty_S D is su ik sk te an) (H : ∀ le st fo co ls ne na pY ro, ty_R D (tp_E D (bt U) 6 []) le st fo co → post ((nI (tp_m D)), U, is, su, ik, sk, fr, tt, te, re, hY, an, le, st, fo, co, ls, ne, na, pY, ro)) : wpY_search post ((nI (tp_m D)), vY, is, su, ik, sk, fr, tt, te, re, hY, an, le, st, fo, co, ls, ne, na, pY, ro) U :=
  ⟨13, ty_search7 hS H 12 0 le st fo co ls ne na pY ro 13 (by omega) (by omega) (fun e he => absurd he (Nat.not_lt_zero _))⟩
end
