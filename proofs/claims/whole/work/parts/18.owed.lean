/-! what is owed -/
theorem i_vc0 : wpX_init (fun u => wpY_init (fun v => i_Rel 0 u v)) := by
  refine ⟨4, ?_⟩
  refine ty_init (fun an h => ?_) 3 0 (fun _ => 0) 4 (by omega) (by omega) (fun a ha => absurd ha (Nat.not_lt_zero _))
  exact ⟨0, by omega, rfl, rfl, rfl, rfl, rfl, fun _ _ => rfl, fun c hc => absurd hc (Nat.not_lt_zero _), fun c hc => absurd hc (Nat.not_lt_zero _), fun c hc => absurd hc (Nat.not_lt_zero _), fun a ha => Or.inl ⟨rfl, h a ha⟩⟩
theorem i_vc_make {k : Nat} {u : SX} {v : SY} (I : i_Rel k u v) (hk : k + 4 ≤ 2048) (v1 : Int32) (v2 : Int32) : wpX_make (fun r u' => wpY_make (fun r' v' => r' = r ∧ i_Rel (k + 4) u' v') v v1 v2) u v1 v2 := by
  obtain ⟨mX, aX, ie, se, sf, gf, gt, au, li, al, ba, po, rv, he, aT, aE, pa, cl, nl, rl, pl⟩ := u
  obtain ⟨mY, vY, is, su, ik, sk, fr, tt, te, re, hY, an, le, st, fo, co, ls, ne, na, pY, ro⟩ := v
  obtain ⟨m, h12, rfl, rfl, rfl, rfl, rfl, h0, hE, hT, hV, hA⟩ := I
  rcases vq_in v1 64 (by omega) with hb | ⟨a, ha, rfl⟩
  · refine tx_make_n hb ?_
    refine ty_make_n hb ?_
    exact ⟨rfl, ⟨m, h12, rfl, rfl, rfl, rfl, rfl, h0, hE, hT, hV, hA⟩⟩
  rcases vq_in v2 100 (by omega) with hb | ⟨b, hb, rfl⟩
  · refine tx_make_k ha hb ?_
    refine ty_make_k ha hb ?_
    exact ⟨rfl, ⟨m, h12, rfl, rfl, rfl, rfl, rfl, h0, hE, hT, hV, hA⟩⟩
  by_cases hm : m < 12
  · refine tx_make hm ha hb (fun z hz => ?_)
    refine ty_make hm ha hb ?_
    have e0 : upd he m 0 = he := by
      funext c
      by_cases e : c = m
      · rw [e, pk_us, h0 m (Nat.le_refl _)]
      · exact pk_un e
    rw [e0]
    exact ⟨rfl, m + 1, by omega, rfl, rfl, rfl, rfl, rfl, fun c hc => h0 c (by omega), tr_makeE ha hb hz hE, tr_makeT hT, tr_makeV hV, hA⟩
  · refine tx_make_f (by omega) ha hb ?_
    refine ty_make_f (by omega) ha hb ?_
    exact ⟨rfl, ⟨m, h12, rfl, rfl, rfl, rfl, rfl, h0, hE, hT, hV, hA⟩⟩
theorem i_vc_times {k : Nat} {u : SX} {v : SY} (I : i_Rel k u v) (hk : k + 4 ≤ 2048) (v1 : Int32) (v2 : Int32) (v3 : Int32) : wpX_times (fun r u' => wpY_times (fun r' v' => r' = r ∧ i_Rel (k + 4) u' v') v v1 v2 v3) u v1 v2 v3 := by
  obtain ⟨mX, aX, ie, se, sf, gf, gt, au, li, al, ba, po, rv, he, aT, aE, pa, cl, nl, rl, pl⟩ := u
  obtain ⟨mY, vY, is, su, ik, sk, fr, tt, te, re, hY, an, le, st, fo, co, ls, ne, na, pY, ro⟩ := v
  obtain ⟨m, h12, rfl, rfl, rfl, rfl, rfl, h0, hE, hT, hV, hA⟩ := I
  rcases vq_cert v1 h12 with hb | ⟨c, hc, rfl⟩
  · refine tx_times_c hb ?_
    refine ty_times_c hb ?_
    exact ⟨rfl, ⟨m, h12, rfl, rfl, rfl, rfl, rfl, h0, hE, hT, hV, hA⟩⟩
  rcases vq_time v2 with hb | ⟨s, hs, rfl⟩
  · refine tx_times_f h12 hc hb ?_
    refine ty_times_f h12 hc hb ?_
    exact ⟨rfl, ⟨m, h12, rfl, rfl, rfl, rfl, rfl, h0, hE, hT, hV, hA⟩⟩
  rcases vq_time v3 with hb | ⟨t, ht, rfl⟩
  · refine tx_times_o h12 hc hs hb ?_
    refine ty_times_o h12 hc hs hb ?_
    exact ⟨rfl, ⟨m, h12, rfl, rfl, rfl, rfl, rfl, h0, hE, hT, hV, hA⟩⟩
  refine tx_times h12 hc hs ht (fun g => ?_) (fun g => ?_)
  · refine ty_times h12 hc hs ht (fun _ => ?_) (fun g2 => absurd g2 g)
    exact ⟨rfl, ⟨m, h12, rfl, rfl, rfl, rfl, rfl, h0, hE, hT, hV, hA⟩⟩
  · refine ty_times h12 hc hs ht (fun g2 => absurd g g2) (fun _ => ?_)
    exact ⟨rfl, ⟨m, h12, rfl, rfl, rfl, rfl, rfl, h0, hE, hT, hV, hA⟩⟩
theorem i_vc_set {k : Nat} {u : SX} {v : SY} (I : i_Rel k u v) (hk : k + 4 ≤ 2048) (v1 : Int32) (v2 : Int32) (v3 : Int32) : wpX_set (fun r u' => wpY_set (fun r' v' => r' = r ∧ i_Rel (k + 4) u' v') v v1 v2 v3) u v1 v2 v3 := by
  obtain ⟨mX, aX, ie, se, sf, gf, gt, au, li, al, ba, po, rv, he, aT, aE, pa, cl, nl, rl, pl⟩ := u
  obtain ⟨mY, vY, is, su, ik, sk, fr, tt, te, re, hY, an, le, st, fo, co, ls, ne, na, pY, ro⟩ := v
  obtain ⟨m, h12, rfl, rfl, rfl, rfl, rfl, h0, hE, hT, hV, hA⟩ := I
  rcases vq_cert v1 h12 with hb | ⟨c, hc, rfl⟩
  · refine tx_set_c hb ?_
    refine ty_set_c hb ?_
    exact ⟨rfl, ⟨m, h12, rfl, rfl, rfl, rfl, rfl, h0, hE, hT, hV, hA⟩⟩
  by_cases hn : v3 < 0
  · refine tx_set_n h12 hc hn ?_
    refine ty_set_n h12 hc hn ?_
    exact ⟨rfl, ⟨m, h12, rfl, rfl, rfl, rfl, rfl, h0, hE, hT, hV, hA⟩⟩
  obtain ⟨x, hx, rfl⟩ := nI_of hn
  rcases vq_in v2 5 (by omega) with hb | ⟨w, hw, rfl⟩
  · refine tx_set_w h12 hc hx hb ?_
    refine ty_set_w h12 hc hb ?_
    exact ⟨rfl, ⟨m, h12, rfl, rfl, rfl, rfl, rfl, h0, hE, hT, hV, hA⟩⟩
  have hw5 : w = 0 ∨ w = 1 ∨ w = 2 ∨ w = 3 ∨ w = 4 := by omega
  rcases hw5 with rfl | rfl | rfl | rfl | rfl
  · refine tx_set0 h12 hc hx (fun g => ?_) (fun g => ?_)
    · refine ty_set0 h12 hc hx (fun _ => ?_) (fun g2 => absurd g (Nat.not_le.mpr g2))
      exact ⟨(hT c hc).1, m, h12, rfl, rfl, rfl, rfl, rfl, h0, hE, tr_set0 g hT, hV, hA⟩
    · refine ty_set0 h12 hc hx (fun g2 => absurd g2 (Nat.not_le.mpr g)) (fun _ => ?_)
      exact ⟨rfl, ⟨m, h12, rfl, rfl, rfl, rfl, rfl, h0, hE, hT, hV, hA⟩⟩
  · refine tx_set1 h12 hc hx (fun g => ?_) (fun g => ?_)
    · refine ty_set1 h12 hc hx (fun _ => ?_) (fun g2 => absurd g (Nat.not_le.mpr g2))
      exact ⟨(hT c hc).2.2.1, m, h12, rfl, rfl, rfl, rfl, rfl, h0, hE, tr_set1 g hT, hV, hA⟩
    · refine ty_set1 h12 hc hx (fun g2 => absurd g2 (Nat.not_le.mpr g)) (fun _ => ?_)
      exact ⟨rfl, ⟨m, h12, rfl, rfl, rfl, rfl, rfl, h0, hE, hT, hV, hA⟩⟩
  · refine tx_set2 h12 hc hx (fun g => ?_) (fun g => ?_)
    · refine ty_set2 h12 hc hx (fun _ => ?_) (fun g2 => absurd g (Nat.not_le.mpr g2))
      exact ⟨(hT c hc).2.2.2.2.1, m, h12, rfl, rfl, rfl, rfl, rfl, h0, hE, tr_set2 g hT, hV, hA⟩
    · refine ty_set2 h12 hc hx (fun g2 => absurd g2 (Nat.not_le.mpr g)) (fun _ => ?_)
      exact ⟨rfl, ⟨m, h12, rfl, rfl, rfl, rfl, rfl, h0, hE, hT, hV, hA⟩⟩
  · refine tx_set3 h12 hc hx (fun g => ?_) (fun g => ?_)
    · refine ty_set3 h12 hc hx (fun _ => ?_) (fun g2 => absurd g (Nat.not_le.mpr g2))
      exact ⟨(hT c hc).2.2.2.2.2.1, m, h12, rfl, rfl, rfl, rfl, rfl, h0, hE, tr_set3 g hT, hV, hA⟩
    · refine ty_set3 h12 hc hx (fun g2 => absurd g2 (Nat.not_le.mpr g)) (fun _ => ?_)
      exact ⟨rfl, ⟨m, h12, rfl, rfl, rfl, rfl, rfl, h0, hE, hT, hV, hA⟩⟩
  · refine tx_set4 h12 hc hx (fun g => ?_) (fun g => ?_)
    · refine ty_set4 h12 hc hx (fun _ => ?_) (fun g2 => absurd g (Nat.not_le.mpr g2))
      exact ⟨(hT c hc).2.2.2.2.2.2, m, h12, rfl, rfl, rfl, rfl, rfl, h0, hE, tr_set4 g hT, hV, hA⟩
    · refine ty_set4 h12 hc hx (fun g2 => absurd g2 (Nat.not_le.mpr g)) (fun _ => ?_)
      exact ⟨rfl, ⟨m, h12, rfl, rfl, rfl, rfl, rfl, h0, hE, hT, hV, hA⟩⟩
theorem i_vc_revoke {k : Nat} {u : SX} {v : SY} (I : i_Rel k u v) (hk : k + 4 ≤ 2048) (v1 : Int32) (v2 : Int32) : wpX_revoke (fun r u' => wpY_revoke (fun r' v' => r' = r ∧ i_Rel (k + 4) u' v') v v1 v2) u v1 v2 := by
  obtain ⟨mX, aX, ie, se, sf, gf, gt, au, li, al, ba, po, rv, he, aT, aE, pa, cl, nl, rl, pl⟩ := u
  obtain ⟨mY, vY, is, su, ik, sk, fr, tt, te, re, hY, an, le, st, fo, co, ls, ne, na, pY, ro⟩ := v
  obtain ⟨m, h12, rfl, rfl, rfl, rfl, rfl, h0, hE, hT, hV, hA⟩ := I
  rcases vq_cert v1 h12 with hb | ⟨c, hc, rfl⟩
  · refine tx_revoke_c hb ?_
    refine ty_revoke_c hb ?_
    exact ⟨rfl, ⟨m, h12, rfl, rfl, rfl, rfl, rfl, h0, hE, hT, hV, hA⟩⟩
  rcases vq_time v2 with hb | ⟨t, ht, rfl⟩
  · refine tx_revoke_t h12 hc hb ?_
    refine ty_revoke_t h12 hc hb ?_
    exact ⟨rfl, ⟨m, h12, rfl, rfl, rfl, rfl, rfl, h0, hE, hT, hV, hA⟩⟩
  refine tx_revoke h12 hc ht ?_
  refine ty_revoke h12 hc ht ?_
  refine ⟨?_, m, h12, rfl, rfl, rfl, rfl, rfl, h0, hE, hT, tr_revV ht hV, hA⟩
  rcases hV c hc with ⟨g1, g2⟩ | ⟨x, g1, g2, g3⟩
  · rw [g1, g2]; decide
  · have k1 : ¬ (1000 : Int32) ≤ nI x := nI_ge (b := 1000) (by omega) (by omega)
    have k2 : ¬ nI x = 101 := fun z => by
      have := (nI_eq (a := x) (b := 101) (by omega) (by omega)).mp z
      omega
    rw [g2, g3, if_neg k1, if_neg k2]
theorem i_vc_hold {k : Nat} {u : SX} {v : SY} (I : i_Rel k u v) (hk : k + 4 ≤ 2048) (v1 : Int32) (v2 : Int32) : wpX_hold (fun r u' => wpY_hold (fun r' v' => r' = r ∧ i_Rel (k + 4) u' v') v v1 (lw_bz v2)) u v1 (lw_bz v2) := by
  obtain ⟨mX, aX, ie, se, sf, gf, gt, au, li, al, ba, po, rv, he, aT, aE, pa, cl, nl, rl, pl⟩ := u
  obtain ⟨mY, vY, is, su, ik, sk, fr, tt, te, re, hY, an, le, st, fo, co, ls, ne, na, pY, ro⟩ := v
  obtain ⟨m, h12, rfl, rfl, rfl, rfl, rfl, h0, hE, hT, hV, hA⟩ := I
  rcases vq_cert v1 h12 with hb | ⟨c, hc, rfl⟩
  · refine tx_hold_c hb ?_
    refine ty_hold_c hb ?_
    exact ⟨rfl, ⟨m, h12, rfl, rfl, rfl, rfl, rfl, h0, hE, hT, hV, hA⟩⟩
  refine tx_hold h12 hc ?_
  refine ty_hold h12 hc ?_
  refine ⟨rfl, m, h12, rfl, rfl, rfl, rfl, rfl, fun d hd => ?_, hE, hT, hV, hA⟩
  rw [pk_un (by omega)]
  exact h0 d hd
theorem i_vc_anchor {k : Nat} {u : SX} {v : SY} (I : i_Rel k u v) (hk : k + 4 ≤ 2048) (v1 : Int32) (v2 : Int32) : wpX_anchor (fun r u' => wpY_anchor (fun r' v' => r' = r ∧ i_Rel (k + 4) u' v') v v1 v2) u v1 v2 := by
  obtain ⟨mX, aX, ie, se, sf, gf, gt, au, li, al, ba, po, rv, he, aT, aE, pa, cl, nl, rl, pl⟩ := u
  obtain ⟨mY, vY, is, su, ik, sk, fr, tt, te, re, hY, an, le, st, fo, co, ls, ne, na, pY, ro⟩ := v
  obtain ⟨m, h12, rfl, rfl, rfl, rfl, rfl, h0, hE, hT, hV, hA⟩ := I
  rcases vq_in v1 3 (by omega) with hb | ⟨a, ha, rfl⟩
  · refine tx_anchor_a hb ?_
    refine ty_anchor_a hb ?_
    exact ⟨rfl, ⟨m, h12, rfl, rfl, rfl, rfl, rfl, h0, hE, hT, hV, hA⟩⟩
  rcases vq_in v2 80 (by omega) with hb | ⟨e, he', rfl⟩
  · refine tx_anchor_e ha hb ?_
    refine ty_anchor_e ha hb ?_
    exact ⟨rfl, ⟨m, h12, rfl, rfl, rfl, rfl, rfl, h0, hE, hT, hV, hA⟩⟩
  refine tx_anchor ha he' ?_
  refine ty_anchor ha he' ?_
  refine ⟨?_, m, h12, rfl, rfl, rfl, rfl, rfl, h0, hE, hT, hV, tr_ancA he' hA⟩
  rcases hA a ha with ⟨g1, g2⟩ | ⟨g1, x, g2, g3, g4⟩
  · rw [g1, g2]; decide
  · rw [if_neg g1, g4, if_neg (nI_pos (by omega))]
theorem i_vc_distrust {k : Nat} {u : SX} {v : SY} (I : i_Rel k u v) (hk : k + 4 ≤ 2048) (v1 : Int32) : wpX_distrust (fun r u' => wpY_distrust (fun r' v' => r' = r ∧ i_Rel (k + 4) u' v') v v1) u v1 := by
  obtain ⟨mX, aX, ie, se, sf, gf, gt, au, li, al, ba, po, rv, he, aT, aE, pa, cl, nl, rl, pl⟩ := u
  obtain ⟨mY, vY, is, su, ik, sk, fr, tt, te, re, hY, an, le, st, fo, co, ls, ne, na, pY, ro⟩ := v
  obtain ⟨m, h12, rfl, rfl, rfl, rfl, rfl, h0, hE, hT, hV, hA⟩ := I
  rcases vq_in v1 3 (by omega) with hb | ⟨a, ha, rfl⟩
  · refine tx_distrust_a hb ?_
    refine ty_distrust_a hb ?_
    exact ⟨rfl, ⟨m, h12, rfl, rfl, rfl, rfl, rfl, h0, hE, hT, hV, hA⟩⟩
  refine tx_distrust ha (fun g => ?_) (fun g => ?_)
  · refine ty_distrust ha (fun _ => ?_) (fun g2 => ?_)
    · exact ⟨rfl, ⟨m, h12, rfl, rfl, rfl, rfl, rfl, h0, hE, hT, hV, hA⟩⟩
    · exfalso
      rcases hA a ha with ⟨g3, g4⟩ | ⟨g3, _⟩
      · rw [g4] at g2
        exact absurd g2 (by decide)
      · exact g3 g
  · refine ty_distrust ha (fun g2 => ?_) (fun _ => ?_)
    · exfalso
      rcases hA a ha with ⟨g3, _⟩ | ⟨_, x, g4, g5, g6⟩
      · exact g g3
      · rw [g6] at g2
        exact g2 (nI_pos' (by omega))
    · exact ⟨rfl, m, h12, rfl, rfl, rfl, rfl, rfl, h0, hE, hT, hV, tr_disA hA⟩
theorem i_vc_trusted {k : Nat} {u : SX} {v : SY} (I : i_Rel k u v) (hk : k + 4 ≤ 2048) (v1 : Int32) (v2 : Int32) : wpX_trusted (fun r u' => wpY_trusted (fun r' v' => r' = r ∧ i_Rel (k + 4) u' v') v v1 v2) u v1 v2 := by
  obtain ⟨mX, aX, ie, se, sf, gf, gt, au, li, al, ba, po, rv, he, aT, aE, pa, cl, nl, rl, pl⟩ := u
  obtain ⟨mY, vY, is, su, ik, sk, fr, tt, te, re, hY, an, le, st, fo, co, ls, ne, na, pY, ro⟩ := v
  obtain ⟨m, h12, rfl, rfl, rfl, rfl, rfl, h0, hE, hT, hV, hA⟩ := I
  exact vq_trusted (D := tr_D m ie se sf au li al ba po aT aE) (Q := i_Rel (k + 4)) (tr_H h12 hE hT hV hA) (fun _ _ _ _ _ _ _ _ _ _ _ _ _ _ _ _ => ⟨m, h12, rfl, rfl, rfl, rfl, rfl, h0, hE, hT, hV, hA⟩) v1 v2
theorem i_vc_length {k : Nat} {u : SX} {v : SY} (I : i_Rel k u v) (hk : k + 4 ≤ 2048) (v1 : Int32) (v2 : Int32) : wpX_length (fun r u' => wpY_length (fun r' v' => r' = r ∧ i_Rel (k + 4) u' v') v v1 v2) u v1 v2 := by
  obtain ⟨mX, aX, ie, se, sf, gf, gt, au, li, al, ba, po, rv, he, aT, aE, pa, cl, nl, rl, pl⟩ := u
  obtain ⟨mY, vY, is, su, ik, sk, fr, tt, te, re, hY, an, le, st, fo, co, ls, ne, na, pY, ro⟩ := v
  obtain ⟨m, h12, rfl, rfl, rfl, rfl, rfl, h0, hE, hT, hV, hA⟩ := I
  exact vq_length (D := tr_D m ie se sf au li al ba po aT aE) (Q := i_Rel (k + 4)) (tr_H h12 hE hT hV hA) (fun _ _ _ _ _ _ _ _ _ _ _ _ _ _ _ _ => ⟨m, h12, rfl, rfl, rfl, rfl, rfl, h0, hE, hT, hV, hA⟩) v1 v2
theorem i_vc_step {k : Nat} {u : SX} {v : SY} (I : i_Rel k u v) (hk : k + 4 ≤ 2048) (v1 : Int32) (v2 : Int32) (v3 : Int32) : wpX_step (fun r u' => wpY_step (fun r' v' => r' = r ∧ i_Rel (k + 4) u' v') v v1 v2 v3) u v1 v2 v3 := by
  obtain ⟨mX, aX, ie, se, sf, gf, gt, au, li, al, ba, po, rv, he, aT, aE, pa, cl, nl, rl, pl⟩ := u
  obtain ⟨mY, vY, is, su, ik, sk, fr, tt, te, re, hY, an, le, st, fo, co, ls, ne, na, pY, ro⟩ := v
  obtain ⟨m, h12, rfl, rfl, rfl, rfl, rfl, h0, hE, hT, hV, hA⟩ := I
  exact vq_step (D := tr_D m ie se sf au li al ba po aT aE) (Q := i_Rel (k + 4)) (tr_H h12 hE hT hV hA) (fun _ _ _ _ _ _ _ _ _ _ _ _ _ _ _ _ => ⟨m, h12, rfl, rfl, rfl, rfl, rfl, h0, hE, hT, hV, hA⟩) v1 v2 v3
theorem i_vc_policies {k : Nat} {u : SX} {v : SY} (I : i_Rel k u v) (hk : k + 4 ≤ 2048) (v1 : Int32) (v2 : Int32) : wpX_policies (fun r u' => wpY_policies (fun r' v' => r' = r ∧ i_Rel (k + 4) u' v') v v1 v2) u v1 v2 := by
  obtain ⟨mX, aX, ie, se, sf, gf, gt, au, li, al, ba, po, rv, he, aT, aE, pa, cl, nl, rl, pl⟩ := u
  obtain ⟨mY, vY, is, su, ik, sk, fr, tt, te, re, hY, an, le, st, fo, co, ls, ne, na, pY, ro⟩ := v
  obtain ⟨m, h12, rfl, rfl, rfl, rfl, rfl, h0, hE, hT, hV, hA⟩ := I
  exact vq_policies (D := tr_D m ie se sf au li al ba po aT aE) (Q := i_Rel (k + 4)) (tr_H h12 hE hT hV hA) (fun _ _ _ _ _ _ _ _ _ _ _ _ _ _ _ _ => ⟨m, h12, rfl, rfl, rfl, rfl, rfl, h0, hE, hT, hV, hA⟩) v1 v2
theorem i_vc_count {k : Nat} {u : SX} {v : SY} (I : i_Rel k u v) (hk : k + 4 ≤ 2048) (v1 : Int32) : wpX_count (fun r u' => wpY_count (fun r' v' => r' = r ∧ i_Rel (k + 4) u' v') v v1) u v1 := by
  obtain ⟨mX, aX, ie, se, sf, gf, gt, au, li, al, ba, po, rv, he, aT, aE, pa, cl, nl, rl, pl⟩ := u
  obtain ⟨mY, vY, is, su, ik, sk, fr, tt, te, re, hY, an, le, st, fo, co, ls, ne, na, pY, ro⟩ := v
  obtain ⟨m, h12, rfl, rfl, rfl, rfl, rfl, h0, hE, hT, hV, hA⟩ := I
  exact vq_count (D := tr_D m ie se sf au li al ba po aT aE) (Q := i_Rel (k + 4)) (tr_H h12 hE hT hV hA) (fun _ _ _ _ _ _ _ _ _ _ _ _ _ _ _ _ => ⟨m, h12, rfl, rfl, rfl, rfl, rfl, h0, hE, hT, hV, hA⟩) v1
theorem i_vc_keysOf {k : Nat} {u : SX} {v : SY} (I : i_Rel k u v) (hk : k + 4 ≤ 2048) (v1 : Int32) (v2 : Int32) (v3 : Int32) : wpX_keysOf (fun r u' => wpY_keysOf (fun r' v' => r' = r ∧ i_Rel (k + 4) u' v') v v1 v2 v3) u v1 v2 v3 := by
  obtain ⟨mX, aX, ie, se, sf, gf, gt, au, li, al, ba, po, rv, he, aT, aE, pa, cl, nl, rl, pl⟩ := u
  obtain ⟨mY, vY, is, su, ik, sk, fr, tt, te, re, hY, an, le, st, fo, co, ls, ne, na, pY, ro⟩ := v
  obtain ⟨m, h12, rfl, rfl, rfl, rfl, rfl, h0, hE, hT, hV, hA⟩ := I
  exact vq_keysOf (D := tr_D m ie se sf au li al ba po aT aE) (Q := i_Rel (k + 4)) (tr_H h12 hE hT hV hA) (fun _ _ _ _ _ _ _ _ _ _ _ _ _ _ _ _ => ⟨m, h12, rfl, rfl, rfl, rfl, rfl, h0, hE, hT, hV, hA⟩) v1 v2 v3
theorem i_vc_until {k : Nat} {u : SX} {v : SY} (I : i_Rel k u v) (hk : k + 4 ≤ 2048) (v1 : Int32) (v2 : Int32) : wpX_until (fun r u' => wpY_until (fun r' v' => r' = r ∧ i_Rel (k + 4) u' v') v v1 v2) u v1 v2 := by
  obtain ⟨mX, aX, ie, se, sf, gf, gt, au, li, al, ba, po, rv, he, aT, aE, pa, cl, nl, rl, pl⟩ := u
  obtain ⟨mY, vY, is, su, ik, sk, fr, tt, te, re, hY, an, le, st, fo, co, ls, ne, na, pY, ro⟩ := v
  obtain ⟨m, h12, rfl, rfl, rfl, rfl, rfl, h0, hE, hT, hV, hA⟩ := I
  exact vq_until (D := tr_D m ie se sf au li al ba po aT aE) (Q := i_Rel (k + 4)) (tr_H h12 hE hT hV hA) (fun _ _ _ _ _ _ _ _ _ _ _ _ _ _ _ _ => ⟨m, h12, rfl, rfl, rfl, rfl, rfl, h0, hE, hT, hV, hA⟩) v1 v2
theorem i_vc_depending {k : Nat} {u : SX} {v : SY} (I : i_Rel k u v) (hk : k + 4 ≤ 2048) (v1 : Int32) (v2 : Int32) : wpX_depending (fun r u' => wpY_depending (fun r' v' => r' = r ∧ i_Rel (k + 4) u' v') v v1 v2) u v1 v2 := by
  obtain ⟨mX, aX, ie, se, sf, gf, gt, au, li, al, ba, po, rv, he, aT, aE, pa, cl, nl, rl, pl⟩ := u
  obtain ⟨mY, vY, is, su, ik, sk, fr, tt, te, re, hY, an, le, st, fo, co, ls, ne, na, pY, ro⟩ := v
  obtain ⟨m, h12, rfl, rfl, rfl, rfl, rfl, h0, hE, hT, hV, hA⟩ := I
  exact vq_depending (D := tr_D m ie se sf au li al ba po aT aE) (Q := i_Rel (k + 4)) (tr_H h12 hE hT hV hA) (fun _ _ _ _ _ _ _ _ _ _ _ _ _ _ _ _ => ⟨m, h12, rfl, rfl, rfl, rfl, rfl, h0, hE, hT, hV, hA⟩) v1 v2
theorem i_vc_narrow {k : Nat} {u : SX} {v : SY} (I : i_Rel k u v) (hk : k + 4 ≤ 2048) (v1 : Int32) (v2 : Int32) : wpX_narrow (fun r u' => wpY_narrow (fun r' v' => r' = r ∧ i_Rel (k + 4) u' v') v v1 v2) u v1 v2 := by
  obtain ⟨mX, aX, ie, se, sf, gf, gt, au, li, al, ba, po, rv, he, aT, aE, pa, cl, nl, rl, pl⟩ := u
  obtain ⟨mY, vY, is, su, ik, sk, fr, tt, te, re, hY, an, le, st, fo, co, ls, ne, na, pY, ro⟩ := v
  obtain ⟨m, h12, rfl, rfl, rfl, rfl, rfl, h0, hE, hT, hV, hA⟩ := I
  exact vq_narrow (D := tr_D m ie se sf au li al ba po aT aE) (Q := i_Rel (k + 4)) (tr_H h12 hE hT hV hA) (fun _ _ _ _ _ _ _ _ _ _ _ _ _ _ _ _ => ⟨m, h12, rfl, rfl, rfl, rfl, rfl, h0, hE, hT, hV, hA⟩) v1 v2
