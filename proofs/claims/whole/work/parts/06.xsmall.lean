/-! the component's small methods, at a node l of the search -/
def tx_aa (aT aE : Nat → Int32) (v : Int32) : Nat → Bool
  | 0 => false
  | a + 1 => tx_aa aT aE v a || (!decide (aT a = 0) && decide (aE a = v))
def tx_S (D : tp_D) (sf au li aT aE : Nat → Int32) : Prop :=
  tp_m D ≤ 12 ∧ (∀ c, c < tp_m D → (au c = 1 ↔ tp_au D c = true)) ∧ (∀ c, c < tp_m D → (sf c = 0 ↔ ¬ tp_sf D c = true)) ∧ (∀ c, c < tp_m D → li c = nI (tp_lm D c) ∧ tp_lm D c ≤ 4) ∧ (∀ c, c < tp_m D → tp_an D c = tx_aa aT aE (tp_ie D c) 3)
section
variable {D : tp_D} {u : Nat → Bool} {T : Nat} {w : Int32} {aX : Int32} {sf gf gt au li rv he aT aE pa cl nl rl pl : Nat → Int32} {l : List Nat} {c : Nat}
theorem tx_linked {post : Int32 → Prop} (hS : tx_S D sf au li aT aE) (hA : ∀ c, c < tp_m D → bt aX c = tp_an D c) (hl : l.length ≤ 5) (hc : c < tp_m D) (hst : tp_st pa l) (hm : ∀ y, y ∈ l → y < tp_m D) (hlx : tp_lx D u T w cl nl rl pl l) (h1 : tp_fo D l c = true → ¬ tp_P D w l &&& tp_po D c = 0 → post 1) (h0 : ¬ (tp_fo D l c = true ∧ ¬ tp_P D w l &&& tp_po D c = 0) → post 0) : wpX_isLinked post ((nI (tp_m D)), aX, (tp_ie D), (tp_se D), sf, gf, gt, au, li, (tp_al D), (tp_ba D), (tp_po D), rv, he, aT, aE, pa, cl, nl, rl, pl) (nI l.length) (nI c) := by
  have h12 := hS.1
  have e1 : (nI l.length).toNatClampNeg = l.length := nI_clamp (by omega)
  have e2 : (nI c).toNatClampNeg = c := nI_clamp (by omega)
  unfold wpX_isLinked
  dsimp only
  rw [e1, e2, hlx.2.2.2]
  refine ⟨vp_in_nI (by omega) (by omega), vp_in_nI (by omega) (by omega), ?_⟩
  by_cases hp : tp_P D w l &&& tp_po D c = 0
  · exact br_t hp (h0 (fun g => g.2 hp))
  · refine br_f hp ?_
    cases l with
    | nil =>
      refine br_t nI_0 ?_
      by_cases ha : tp_an D c = true
      · exact br_t ((tb_has _ (by omega)).mpr (by rw [hA c hc]; exact ha)) (h1 ha hp)
      · exact br_f (fun g => ha (by rw [← hA c hc]; exact (tb_has _ (by omega)).mp g)) (h0 (fun g => ha g.1))
    | cons b l =>
      rw [List.length_cons] at hl
      have hb : b < tp_m D := hm b List.mem_cons_self
      have e3 : (nI (b :: l).length - 1) = nI l.length := nI_pred l.length
      have e4 : (nI l.length).toNatClampNeg = l.length := nI_clamp (by omega)
      have e5 : (nI b).toNatClampNeg = b := nI_clamp (by omega)
      rw [e3, e4, hst.1, e5]
      refine br_f (nI_ne0 (n := l.length + 1) (by omega) (by omega)) ⟨vp_in_nI (by omega) (by omega), vp_in_nI (by omega) (by omega), vp_in_nI (by omega) (by omega), ?_⟩
      by_cases he : tp_se D b = tp_ie D c
      · exact br_t he (h1 (decide_eq_true he) hp)
      · exact br_f he (h0 (fun g => he (of_decide_eq_true g.1)))
theorem tx_named {post : Int32 → Prop} (hS : tx_S D sf au li aT aE) (hl : l.length ≤ 5) (hc : c < tp_m D) (hlx : tp_lx D u T w cl nl rl pl l) (h1 : tp_nm D l c = true → post 1) (h0 : ¬ tp_nm D l c = true → post 0) : wpX_isNamed post ((nI (tp_m D)), aX, (tp_ie D), (tp_se D), sf, gf, gt, au, li, (tp_al D), (tp_ba D), (tp_po D), rv, he, aT, aE, pa, cl, nl, rl, pl) (nI l.length) (nI c) := by
  have h12 := hS.1
  have e1 : (nI l.length).toNatClampNeg = l.length := nI_clamp (by omega)
  have e2 : (nI c).toNatClampNeg = c := nI_clamp (by omega)
  unfold wpX_isNamed
  dsimp only
  rw [e1, e2, hlx.2.1]
  refine ⟨vp_in_nI (by omega) (by omega), vp_in_nI (by omega) (by omega), by decide, ?_⟩
  exact br_c (fun g => h1 (decide_eq_true g)) (fun g => h0 (fun z => g (of_decide_eq_true z)))
theorem tx_canEnd {post : Int32 → Prop} (hS : tx_S D sf au li aT aE) (hA : ∀ c, c < tp_m D → bt aX c = tp_an D c) (hl : l.length ≤ 5) (hc : c < tp_m D) (hst : tp_st pa l) (hm : ∀ y, y ∈ l → y < tp_m D) (hlx : tp_lx D u T w cl nl rl pl l) (h1 : tp_fo D l c = true → ¬ tp_P D w l &&& tp_po D c = 0 → tp_nm D l c = true → post 1) (h0 : ¬ (tp_fo D l c = true ∧ (¬ tp_P D w l &&& tp_po D c = 0) ∧ tp_nm D l c = true) → post 0) : wpX_canEnd post ((nI (tp_m D)), aX, (tp_ie D), (tp_se D), sf, gf, gt, au, li, (tp_al D), (tp_ba D), (tp_po D), rv, he, aT, aE, pa, cl, nl, rl, pl) (nI l.length) (nI c) := by
  unfold wpX_canEnd
  dsimp only
  refine tx_linked hS hA hl hc hst hm hlx (fun g1 g2 => ?_) (fun g => ?_)
  · refine br_f (by decide) ?_
    refine tx_named hS hl hc hlx (fun g3 => ?_) (fun g3 => ?_)
    · exact br_f (by decide) (h1 g1 g2 g3)
    · exact br_t rfl (h0 (fun z => g3 z.2.2))
  · exact br_t rfl (h0 (fun z => g ⟨z.1, z.2.1⟩))
theorem tx_next9 {post : Int32 → Prop} (hS : tx_S D sf au li aT aE) (hA : ∀ c, c < tp_m D → bt aX c = tp_an D c) (hl : l.length ≤ 5) (hst : tp_st pa l) (hm : ∀ y, y ∈ l → y < tp_m D) (hlx : tp_lx D u T w cl nl rl pl l) : ∀ j c n, c + j = tp_m D → j < n → (∀ d, c ≤ d → d < tp_m D → (tp_go D u w l d = true ∧ d ≠ T) → (∀ e, c ≤ e → e < d → ¬ (tp_go D u w l e = true ∧ e ≠ T)) → post (nI d)) → ((∀ d, c ≤ d → d < tp_m D → ¬ (tp_go D u w l d = true ∧ d ≠ T)) → post (-1)) → wX_nextBetween_9 post (nI l.length) (nI (tp_m D)) aX (tp_ie D) (tp_se D) sf gf gt au li (tp_al D) (tp_ba D) (tp_po D) rv he aT aE pa cl nl rl pl n (nI c) := by
  intro j
  induction j with
  | zero =>
    intro c n hj hn _ h0
    obtain ⟨n, rfl⟩ : ∃ k, n = k + 1 := ⟨n - 1, by omega⟩
    have h12 := hS.1
    exact br_t (nI_le (by omega) (by omega)) (h0 (fun d h1 h2 => by omega))
  | succ j ih =>
    intro c n hj hn hf h0
    obtain ⟨n, rfl⟩ : ∃ k, n = k + 1 := ⟨n - 1, by omega⟩
    have h12 := hS.1
    have hc : c < tp_m D := by omega
    have e1 : (nI l.length).toNatClampNeg = l.length := nI_clamp (by omega)
    have e2 : (nI c).toNatClampNeg = c := nI_clamp (by omega)
    have hbit := hlx.1 c (by omega)
    have nx : ¬ (tp_go D u w l c = true ∧ c ≠ T) → wX_nextBetween_9 post (nI l.length) (nI (tp_m D)) aX (tp_ie D) (tp_se D) sf gf gt au li (tp_al D) (tp_ba D) (tp_po D) rv he aT aE pa cl nl rl pl n (nI c + 1) := by
      intro hb
      rw [nI_1]
      refine ih (c + 1) n (by omega) (by omega) ?_ ?_
      · intro d h1 h2 h3 h4
        refine hf d (by omega) h2 h3 ?_
        intro e g1 g2
        by_cases z : e = c
        · rw [z]; exact hb
        · exact h4 e (by omega) g2
      · intro h4
        apply h0
        intro d h1 h2
        by_cases z : d = c
        · rw [z]; exact hb
        · exact h4 d (by omega) h2
    have ps : (tp_go D u w l c = true ∧ c ≠ T) → post (nI c) := fun g => hf c (Nat.le_refl _) hc g (fun e g1 g2 => by omega)
    have z45 : ¬ (tp_go D u w l c = true ∧ c ≠ T) → wX_nextBetween_45 post (wX_nextBetween_9 post (nI l.length) (nI (tp_m D)) aX (tp_ie D) (tp_se D) sf gf gt au li (tp_al D) (tp_ba D) (tp_po D) rv he aT aE pa cl nl rl pl n) (nI l.length) (nI c) (nI (tp_m D)) aX (tp_ie D) (tp_se D) sf gf gt au li (tp_al D) (tp_ba D) (tp_po D) rv he aT aE pa cl nl rl pl := fun hb => br_t rfl (nm_e (nx hb))
    rw [wX_nextBetween_9]
    dsimp only
    rw [e1, e2]
    refine br_f (nI_ge (by omega) (by omega)) ⟨vp_in_nI (by omega) (by omega), ?_⟩
    by_cases hb : bt (cl l.length) c = true
    · refine br_t ((tb_has _ (by omega)).mpr hb) ⟨vp_in_nI (by omega) (by omega), ?_⟩
      rw [hbit] at hb
      simp only [Bool.and_eq_true, Bool.not_eq_true', decide_eq_false_iff_not] at hb
      by_cases ha : au c = 1
      · refine br_t ha ?_
        have ha2 := (hS.2.1 c hc).mp ha
        unfold wX_nextBetween_46
        rw [e1, e2]
        refine br_f (by decide) ?_
        refine tx_linked hS hA hl hc hst hm hlx (fun g1 g2 => ?_) (fun g => ?_)
        · have hlk : tp_lk D u w l c = true := tp_lk_iff.mpr ⟨hb.1, hb.2.2, g1, g2⟩
          refine br_f (by decide) ⟨vp_in_nI (by omega) (by omega), ?_⟩
          by_cases hs : sf c = 0
          · refine br_t hs ⟨vp_in_nI (by omega) (by omega), ?_⟩
            have hs2 := (hS.2.2.1 c hc).mp hs
            have hr := tp_R_le D 6 l
            by_cases h6 : 0 < tp_R D 6 l
            · refine br_f (by rw [hlx.2.2.1]; exact nI_nle h6 (by omega)) ?_
              refine tx_named hS hl hc hlx (fun g3 => ?_) (fun g3 => ?_)
              · refine br_f (by decide) (ps ⟨tp_go_iff.mpr ⟨hlk, ha2, Or.inr ⟨(tp_room0 D hl).mp h6, g3⟩⟩, hb.2.1⟩)
              · refine br_t rfl (nm_e (nx (fun z => ?_)))
                rcases (tp_go_iff.mp z.1).2.2 with q | q
                · exact hs2 q
                · exact g3 q.2
            · refine br_t (by rw [hlx.2.2.1]; exact nI_le (b := 0) (by omega) (by omega)) (nm_e (nx (fun z => ?_)))
              rcases (tp_go_iff.mp z.1).2.2 with q | q
              · exact hs2 q
              · exact h6 ((tp_room0 D hl).mpr q.1)
          · have hs2 : tp_sf D c = true := Classical.byContradiction (fun z => hs ((hS.2.2.1 c hc).mpr z))
            exact br_f hs (ps ⟨tp_go_iff.mpr ⟨hlk, ha2, Or.inl hs2⟩, hb.2.1⟩)
        · refine br_t rfl (nm_e (nx (fun z => g ?_)))
          have q := tp_lk_iff.mp (tp_go_iff.mp z.1).1
          exact ⟨q.2.2.1, q.2.2.2⟩
      · refine br_f ha (z45 (fun z => ha ((hS.2.1 c hc).mpr (tp_go_iff.mp z.1).2.1)))
    · refine br_f (fun g => hb ((tb_has _ (by omega)).mp g)) (z45 (fun z => hb ?_))
      have q := tp_lk_iff.mp (tp_go_iff.mp z.1).1
      rw [hbit]
      simp only [Bool.and_eq_true, Bool.not_eq_true', decide_eq_false_iff_not]
      exact ⟨q.1, z.2, q.2.1⟩
theorem tx_next {post : Int32 → Prop} (hS : tx_S D sf au li aT aE) (hA : ∀ c, c < tp_m D → bt aX c = tp_an D c) (hl : l.length ≤ 5) (hst : tp_st pa l) (hm : ∀ y, y ∈ l → y < tp_m D) (hlx : tp_lx D u T w cl nl rl pl l) (hc : c ≤ tp_m D) (hp : pa l.length + 1 = nI c) (hf : ∀ d, c ≤ d → d < tp_m D → (tp_go D u w l d = true ∧ d ≠ T) → (∀ e, c ≤ e → e < d → ¬ (tp_go D u w l e = true ∧ e ≠ T)) → post (nI d)) (h0 : (∀ d, c ≤ d → d < tp_m D → ¬ (tp_go D u w l d = true ∧ d ≠ T)) → post (-1)) : wpX_nextBetween post ((nI (tp_m D)), aX, (tp_ie D), (tp_se D), sf, gf, gt, au, li, (tp_al D), (tp_ba D), (tp_po D), rv, he, aT, aE, pa, cl, nl, rl, pl) (nI l.length) := by
  have e1 : (nI l.length).toNatClampNeg = l.length := nI_clamp (by omega)
  unfold wpX_nextBetween
  dsimp only
  rw [e1]
  refine ⟨vp_in_nI (by omega) (by omega), nm_r hp ⟨tp_m D - c + 1, ?_⟩⟩
  exact tx_next9 hS hA hl hst hm hlx (tp_m D - c) c _ (by omega) (by omega) hf h0
theorem tx_open54 {post : SX → Prop} {r : Nat} (hS : tx_S D sf au li aT aE) (hl : l.length ≤ 4) (hc : c < tp_m D) (h : post ((nI (tp_m D)), aX, (tp_ie D), (tp_se D), sf, gf, gt, au, li, (tp_al D), (tp_ba D), (tp_po D), rv, he, aT, aE, pa, upd cl (l.length + 1) (cl l.length &&& (((1 : Int32) <<< (nI c &&& 31)) ^^^ (-1))), upd nl (l.length + 1) ((nl l.length &&& tp_al D c) &&& (tp_ba D c ^^^ (-1))), upd rl (l.length + 1) (nI r), upd pl (l.length + 1) (pl l.length &&& tp_po D c))) : wX_openNext_54 post (nI l.length) (nI c) (nI r) (nI (tp_m D)) aX (tp_ie D) (tp_se D) sf gf gt au li (tp_al D) (tp_ba D) (tp_po D) rv he aT aE pa cl nl rl pl := by
  have h12 := hS.1
  have e1 : (nI l.length).toNatClampNeg = l.length := nI_clamp (by omega)
  have e2 : (nI c).toNatClampNeg = c := nI_clamp (by omega)
  have e3 : (nI (l.length + 1)).toNatClampNeg = l.length + 1 := nI_clamp (by omega)
  have v1 : vp_in (nI l.length) 6 := vp_in_nI (by omega) (by omega)
  have v2 : vp_in (nI c) 12 := vp_in_nI (by omega) (by omega)
  have v3 : vp_in (nI (l.length + 1)) 6 := vp_in_nI (by omega) (by omega)
  unfold wX_openNext_54
  rw [nI_1 l.length, e1, e2, e3]
  exact ⟨v1, v3, nm_e ⟨v1, v2, v2, v3, nm_e ⟨v3, nm_e ⟨v1, v2, v3, nm_e h⟩⟩⟩⟩
theorem tx_open26 {post : SX → Prop} {r : Nat} (hS : tx_S D sf au li aT aE) (hl : l.length ≤ 4) (hr : r ≤ 100) (hc : c < tp_m D) (h : post ((nI (tp_m D)), aX, (tp_ie D), (tp_se D), sf, gf, gt, au, li, (tp_al D), (tp_ba D), (tp_po D), rv, he, aT, aE, pa, upd cl (l.length + 1) (cl l.length &&& (((1 : Int32) <<< (nI c &&& 31)) ^^^ (-1))), upd nl (l.length + 1) ((nl l.length &&& tp_al D c) &&& (tp_ba D c ^^^ (-1))), upd rl (l.length + 1) (nI (tp_cl (tp_lm D c) r)), upd pl (l.length + 1) (pl l.length &&& tp_po D c))) : wX_openNext_26 post (nI l.length) (nI c) (nI r) (nI (tp_m D)) aX (tp_ie D) (tp_se D) sf gf gt au li (tp_al D) (tp_ba D) (tp_po D) rv he aT aE pa cl nl rl pl := by
  have h12 := hS.1
  obtain ⟨hli, hl4⟩ := hS.2.2.2.1 c hc
  have e2 : (nI c).toNatClampNeg = c := nI_clamp (by omega)
  have v2 : vp_in (nI c) 12 := vp_in_nI (by omega) (by omega)
  unfold wX_openNext_26
  rw [e2, hli]
  refine ⟨v2, pk_le 4 (tp_lm D c) (fun g => ?_) (fun g => ⟨v2, pk_le r (tp_lm D c) (fun g2 => ?_) (fun g2 => ⟨v2, nm_e ?_⟩)⟩)⟩
  · have e : tp_cl (tp_lm D c) r = r := if_neg (by omega)
    rw [e] at h
    exact tx_open54 hS hl hc h
  · have e : tp_cl (tp_lm D c) r = r := if_neg (by omega)
    rw [e] at h
    exact tx_open54 hS hl hc h
  · have e : tp_cl (tp_lm D c) r = tp_lm D c := if_pos (by omega)
    rw [e] at h
    exact tx_open54 hS hl hc h
theorem tx_open {post : SX → Prop} (hS : tx_S D sf au li aT aE) (hl : l.length ≤ 4) (hc : c < tp_m D) (hlx : tp_lx D u T w cl nl rl pl l) (hr : tp_sf D c = true ∨ 0 < tp_R D 6 l) (h : post ((nI (tp_m D)), aX, (tp_ie D), (tp_se D), sf, gf, gt, au, li, (tp_al D), (tp_ba D), (tp_po D), rv, he, aT, aE, pa, upd cl (l.length + 1) (cl l.length &&& (((1 : Int32) <<< (nI c &&& 31)) ^^^ (-1))), upd nl (l.length + 1) ((nl l.length &&& tp_al D c) &&& (tp_ba D c ^^^ (-1))), upd rl (l.length + 1) (nI (tp_R D 6 (c :: l))), upd pl (l.length + 1) (pl l.length &&& tp_po D c))) : wpX_openNext post ((nI (tp_m D)), aX, (tp_ie D), (tp_se D), sf, gf, gt, au, li, (tp_al D), (tp_ba D), (tp_po D), rv, he, aT, aE, pa, cl, nl, rl, pl) (nI l.length) (nI c) := by
  have h12 := hS.1
  have e1 : (nI l.length).toNatClampNeg = l.length := nI_clamp (by omega)
  have e2 : (nI c).toNatClampNeg = c := nI_clamp (by omega)
  have v1 : vp_in (nI l.length) 6 := vp_in_nI (by omega) (by omega)
  have v2 : vp_in (nI c) 12 := vp_in_nI (by omega) (by omega)
  have h6 := tp_R_le D 6 l
  unfold wpX_openNext
  dsimp only
  rw [e1, e2, hlx.2.2.1]
  rw [tp_R] at h
  refine ⟨v2, ?_⟩
  by_cases hs : sf c = 0
  · have hs2 := (hS.2.2.1 c hc).mp hs
    have h0 : 0 < tp_R D 6 l := by
      rcases hr with hr | hr
      · exact absurd hr hs2
      · exact hr
    rw [if_neg hs2] at h
    have e4 : nI (tp_R D 6 l) - 1 = nI (tp_R D 6 l - 1) := by
      have := nI_pred (tp_R D 6 l - 1)
      rw [Nat.sub_add_cancel h0] at this
      exact this
    rw [e4]
    exact br_t hs ⟨v1, tx_open26 hS hl (by omega) hc h⟩
  · have hs2 : tp_sf D c = true := Classical.byContradiction (fun z => hs ((hS.2.2.1 c hc).mpr z))
    rw [if_pos hs2] at h
    exact br_f hs ⟨v1, tx_open26 hS hl (by omega) hc h⟩
theorem tx_open_LX (hl : l.length ≤ 4) (h : tp_LX D u T w cl nl rl pl l) (hc : c < 32) : tp_LX D u T w (upd cl (l.length + 1) (cl l.length &&& (((1 : Int32) <<< (nI c &&& 31)) ^^^ (-1)))) (upd nl (l.length + 1) ((nl l.length &&& tp_al D c) &&& (tp_ba D c ^^^ (-1)))) (upd rl (l.length + 1) (nI (tp_R D 6 (c :: l)))) (upd pl (l.length + 1) (pl l.length &&& tp_po D c)) (c :: l) := by
  obtain ⟨t1, t2, t3, t4⟩ := tp_LX_top l h
  refine ⟨⟨?_, ?_, ?_, ?_⟩, ?_⟩
  · intro d hd
    rw [List.length_cons, pk_us, tb_clr _ hc hd, t1 d hd]
    by_cases e : d = c
    · subst e
      simp
    · have e2 : (d ∈ c :: l) ↔ d ∈ l := by
        rw [List.mem_cons]
        exact ⟨fun z => z.resolve_left e, Or.inr⟩
      rw [decide_eq_false e, decide_eq_decide.mpr e2, Bool.not_false, Bool.and_true]
  · rw [List.length_cons, pk_us, t2, tp_N]
  · rw [List.length_cons, pk_us]
  · rw [List.length_cons, pk_us, t4, tp_P]
  · refine tp_LX_congr l (fun i hi => ⟨pk_un (by omega), pk_un (by omega), pk_un (by omega), pk_un (by omega)⟩) h
end
