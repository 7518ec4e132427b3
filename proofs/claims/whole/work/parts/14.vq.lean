/-! the questions of both sides together: Q is whatever holds of related states, whatever the searches left behind -/
def vq_H (D : tp_D) (sf gf gt au li rv he aT aE is su ik sk fr tt te re hY an : Nat → Int32) : Prop :=
  tx_S D sf au li aT aE ∧ ty_S D is su ik sk te an ∧ (∀ c, c < tp_m D → sk c = tp_kx D c) ∧ (∀ t, t ≤ 100 → tp_mk (tx_ok fr tt re hY (nI t)) (tp_m D) = tp_mk (tx_ok gf gt rv he (nI t)) (tp_m D))
section
variable {D : tp_D} {aX : Int32} {sf gf gt au li rv he aT aE pa cl nl rl pl : Nat → Int32} {vY : Int32} {is su ik sk fr tt te re hY an le st fo co ls ne na pY ro : Nat → Int32} {Q : SX → SY → Prop}
theorem vq_trusted (h : vq_H D sf gf gt au li rv he aT aE is su ik sk fr tt te re hY an) (hQ : ∀ aX pa cl nl rl pl vY le st fo co ls ne na pY ro, Q ((nI (tp_m D)), aX, (tp_ie D), (tp_se D), sf, gf, gt, au, li, (tp_al D), (tp_ba D), (tp_po D), rv, he, aT, aE, pa, cl, nl, rl, pl) ((nI (tp_m D)), vY, is, su, ik, sk, fr, tt, te, re, hY, an, le, st, fo, co, ls, ne, na, pY, ro)) (v1 v2 : Int32) : wpX_trusted (fun r u => wpY_trusted (fun r' v => r' = r ∧ Q u v) ((nI (tp_m D)), vY, is, su, ik, sk, fr, tt, te, re, hY, an, le, st, fo, co, ls, ne, na, pY, ro) v1 v2) ((nI (tp_m D)), aX, (tp_ie D), (tp_se D), sf, gf, gt, au, li, (tp_al D), (tp_ba D), (tp_po D), rv, he, aT, aE, pa, cl, nl, rl, pl) v1 v2 := by
  obtain ⟨hS, hT, hk, hV⟩ := h
  rcases vq_cert v1 hS.1 with hb | ⟨c, hc, rfl⟩
  · refine tx_trusted_c hb ?_
    refine ty_trusted_c hb ?_
    exact ⟨rfl, hQ _ _ _ _ _ _ _ _ _ _ _ _ _ _ _ _⟩
  rcases vq_time v2 with hb | ⟨t, ht, rfl⟩
  · refine tx_trusted_t hS.1 hc hb ?_
    refine ty_trusted_t hS.1 hc hb ?_
    exact ⟨rfl, hQ _ _ _ _ _ _ _ _ _ _ _ _ _ _ _ _⟩
  refine tx_trusted hS hc ht rfl (fun aX pa cl nl rl pl => ?_)
  refine ty_trusted hT hc ht (hV t ht) (fun vY le st fo co ls ne na pY ro => ?_)
  exact ⟨rfl, hQ _ _ _ _ _ _ _ _ _ _ _ _ _ _ _ _⟩
theorem vq_length (h : vq_H D sf gf gt au li rv he aT aE is su ik sk fr tt te re hY an) (hQ : ∀ aX pa cl nl rl pl vY le st fo co ls ne na pY ro, Q ((nI (tp_m D)), aX, (tp_ie D), (tp_se D), sf, gf, gt, au, li, (tp_al D), (tp_ba D), (tp_po D), rv, he, aT, aE, pa, cl, nl, rl, pl) ((nI (tp_m D)), vY, is, su, ik, sk, fr, tt, te, re, hY, an, le, st, fo, co, ls, ne, na, pY, ro)) (v1 v2 : Int32) : wpX_length (fun r u => wpY_length (fun r' v => r' = r ∧ Q u v) ((nI (tp_m D)), vY, is, su, ik, sk, fr, tt, te, re, hY, an, le, st, fo, co, ls, ne, na, pY, ro) v1 v2) ((nI (tp_m D)), aX, (tp_ie D), (tp_se D), sf, gf, gt, au, li, (tp_al D), (tp_ba D), (tp_po D), rv, he, aT, aE, pa, cl, nl, rl, pl) v1 v2 := by
  obtain ⟨hS, hT, hk, hV⟩ := h
  rcases vq_cert v1 hS.1 with hb | ⟨c, hc, rfl⟩
  · refine tx_length_c hb ?_
    refine ty_length_c hb ?_
    exact ⟨rfl, hQ _ _ _ _ _ _ _ _ _ _ _ _ _ _ _ _⟩
  rcases vq_time v2 with hb | ⟨t, ht, rfl⟩
  · refine tx_length_t hS.1 hc hb ?_
    refine ty_length_t hS.1 hc hb ?_
    exact ⟨rfl, hQ _ _ _ _ _ _ _ _ _ _ _ _ _ _ _ _⟩
  refine tx_length hS hc ht rfl (fun aX pa cl nl rl pl => ?_)
  refine ty_length hT hc ht (hV t ht) (fun vY le st fo co ls ne na pY ro => ?_)
  exact ⟨rfl, hQ _ _ _ _ _ _ _ _ _ _ _ _ _ _ _ _⟩
theorem vq_policies (h : vq_H D sf gf gt au li rv he aT aE is su ik sk fr tt te re hY an) (hQ : ∀ aX pa cl nl rl pl vY le st fo co ls ne na pY ro, Q ((nI (tp_m D)), aX, (tp_ie D), (tp_se D), sf, gf, gt, au, li, (tp_al D), (tp_ba D), (tp_po D), rv, he, aT, aE, pa, cl, nl, rl, pl) ((nI (tp_m D)), vY, is, su, ik, sk, fr, tt, te, re, hY, an, le, st, fo, co, ls, ne, na, pY, ro)) (v1 v2 : Int32) : wpX_policies (fun r u => wpY_policies (fun r' v => r' = r ∧ Q u v) ((nI (tp_m D)), vY, is, su, ik, sk, fr, tt, te, re, hY, an, le, st, fo, co, ls, ne, na, pY, ro) v1 v2) ((nI (tp_m D)), aX, (tp_ie D), (tp_se D), sf, gf, gt, au, li, (tp_al D), (tp_ba D), (tp_po D), rv, he, aT, aE, pa, cl, nl, rl, pl) v1 v2 := by
  obtain ⟨hS, hT, hk, hV⟩ := h
  rcases vq_cert v1 hS.1 with hb | ⟨c, hc, rfl⟩
  · refine tx_policies_c hb ?_
    refine ty_policies_c hb ?_
    exact ⟨rfl, hQ _ _ _ _ _ _ _ _ _ _ _ _ _ _ _ _⟩
  rcases vq_time v2 with hb | ⟨t, ht, rfl⟩
  · refine tx_policies_t hS.1 hc hb ?_
    refine ty_policies_t hS.1 hc hb ?_
    exact ⟨rfl, hQ _ _ _ _ _ _ _ _ _ _ _ _ _ _ _ _⟩
  refine tx_policies hS hc ht rfl (fun aX pa cl nl rl pl => ?_)
  refine ty_policies hT hc ht (hV t ht) (fun vY le st fo co ls ne na pY ro => ?_)
  exact ⟨rfl, hQ _ _ _ _ _ _ _ _ _ _ _ _ _ _ _ _⟩
theorem vq_depending (h : vq_H D sf gf gt au li rv he aT aE is su ik sk fr tt te re hY an) (hQ : ∀ aX pa cl nl rl pl vY le st fo co ls ne na pY ro, Q ((nI (tp_m D)), aX, (tp_ie D), (tp_se D), sf, gf, gt, au, li, (tp_al D), (tp_ba D), (tp_po D), rv, he, aT, aE, pa, cl, nl, rl, pl) ((nI (tp_m D)), vY, is, su, ik, sk, fr, tt, te, re, hY, an, le, st, fo, co, ls, ne, na, pY, ro)) (v1 v2 : Int32) : wpX_depending (fun r u => wpY_depending (fun r' v => r' = r ∧ Q u v) ((nI (tp_m D)), vY, is, su, ik, sk, fr, tt, te, re, hY, an, le, st, fo, co, ls, ne, na, pY, ro) v1 v2) ((nI (tp_m D)), aX, (tp_ie D), (tp_se D), sf, gf, gt, au, li, (tp_al D), (tp_ba D), (tp_po D), rv, he, aT, aE, pa, cl, nl, rl, pl) v1 v2 := by
  obtain ⟨hS, hT, hk, hV⟩ := h
  rcases vq_cert v1 hS.1 with hb | ⟨c, hc, rfl⟩
  · refine tx_depending_c hb ?_
    refine ty_depending_c hb ?_
    exact ⟨rfl, hQ _ _ _ _ _ _ _ _ _ _ _ _ _ _ _ _⟩
  rcases vq_time v2 with hb | ⟨t, ht, rfl⟩
  · refine tx_depending_t hS.1 hc hb ?_
    refine ty_depending_t hS.1 hc hb ?_
    exact ⟨rfl, hQ _ _ _ _ _ _ _ _ _ _ _ _ _ _ _ _⟩
  refine tx_depending hS hc ht rfl (fun aX pa cl nl rl pl => ?_)
  refine ty_depending hT hc ht (hV t ht) (fun vY le st fo co ls ne na pY ro => ?_)
  exact ⟨rfl, hQ _ _ _ _ _ _ _ _ _ _ _ _ _ _ _ _⟩
theorem vq_narrow (h : vq_H D sf gf gt au li rv he aT aE is su ik sk fr tt te re hY an) (hQ : ∀ aX pa cl nl rl pl vY le st fo co ls ne na pY ro, Q ((nI (tp_m D)), aX, (tp_ie D), (tp_se D), sf, gf, gt, au, li, (tp_al D), (tp_ba D), (tp_po D), rv, he, aT, aE, pa, cl, nl, rl, pl) ((nI (tp_m D)), vY, is, su, ik, sk, fr, tt, te, re, hY, an, le, st, fo, co, ls, ne, na, pY, ro)) (v1 v2 : Int32) : wpX_narrow (fun r u => wpY_narrow (fun r' v => r' = r ∧ Q u v) ((nI (tp_m D)), vY, is, su, ik, sk, fr, tt, te, re, hY, an, le, st, fo, co, ls, ne, na, pY, ro) v1 v2) ((nI (tp_m D)), aX, (tp_ie D), (tp_se D), sf, gf, gt, au, li, (tp_al D), (tp_ba D), (tp_po D), rv, he, aT, aE, pa, cl, nl, rl, pl) v1 v2 := by
  obtain ⟨hS, hT, hk, hV⟩ := h
  rcases vq_cert v1 hS.1 with hb | ⟨c, hc, rfl⟩
  · refine tx_narrow_c hb ?_
    refine ty_narrow_c hb ?_
    exact ⟨rfl, hQ _ _ _ _ _ _ _ _ _ _ _ _ _ _ _ _⟩
  rcases vq_time v2 with hb | ⟨t, ht, rfl⟩
  · refine tx_narrow_t hS.1 hc hb ?_
    refine ty_narrow_t hS.1 hc hb ?_
    exact ⟨rfl, hQ _ _ _ _ _ _ _ _ _ _ _ _ _ _ _ _⟩
  refine tx_narrow hS hc ht rfl (fun aX pa cl nl rl pl => ?_)
  refine ty_narrow hT hc ht (hV t ht) (fun vY le st fo co ls ne na pY ro => ?_)
  exact ⟨rfl, hQ _ _ _ _ _ _ _ _ _ _ _ _ _ _ _ _⟩
theorem vq_until (h : vq_H D sf gf gt au li rv he aT aE is su ik sk fr tt te re hY an) (hQ : ∀ aX pa cl nl rl pl vY le st fo co ls ne na pY ro, Q ((nI (tp_m D)), aX, (tp_ie D), (tp_se D), sf, gf, gt, au, li, (tp_al D), (tp_ba D), (tp_po D), rv, he, aT, aE, pa, cl, nl, rl, pl) ((nI (tp_m D)), vY, is, su, ik, sk, fr, tt, te, re, hY, an, le, st, fo, co, ls, ne, na, pY, ro)) (v1 v2 : Int32) : wpX_until (fun r u => wpY_until (fun r' v => r' = r ∧ Q u v) ((nI (tp_m D)), vY, is, su, ik, sk, fr, tt, te, re, hY, an, le, st, fo, co, ls, ne, na, pY, ro) v1 v2) ((nI (tp_m D)), aX, (tp_ie D), (tp_se D), sf, gf, gt, au, li, (tp_al D), (tp_ba D), (tp_po D), rv, he, aT, aE, pa, cl, nl, rl, pl) v1 v2 := by
  obtain ⟨hS, hT, hk, hV⟩ := h
  rcases vq_cert v1 hS.1 with hb | ⟨c, hc, rfl⟩
  · refine tx_until_c hb ?_
    refine ty_until_c hb ?_
    exact ⟨rfl, hQ _ _ _ _ _ _ _ _ _ _ _ _ _ _ _ _⟩
  rcases vq_time v2 with hb | ⟨t, ht, rfl⟩
  · refine tx_until_t hS.1 hc hb ?_
    refine ty_until_t hS.1 hc hb ?_
    exact ⟨rfl, hQ _ _ _ _ _ _ _ _ _ _ _ _ _ _ _ _⟩
  refine tx_until (V := fun t => tp_mk (tx_ok gf gt rv he (nI t)) (tp_m D)) hS hc ht (fun t _ => rfl) (fun aX pa cl nl rl pl => ?_)
  refine ty_until (V := fun t => tp_mk (tx_ok gf gt rv he (nI t)) (tp_m D)) hT hc ht (fun t ht => (hV t ht).symm) (fun vY le st fo co ls ne na pY ro => ?_)
  exact ⟨rfl, hQ _ _ _ _ _ _ _ _ _ _ _ _ _ _ _ _⟩
theorem vq_no {D : tp_D} {U v : Int32} {c i : Nat} {q : List Nat} (h0 : v < 0 ∨ nI (tp_ln (tp_B D U c)) ≤ v) (e : v = nI i) (hb : tp_B D U c = some q) (hi : i < q.length) : False := by
  have h6 := tp_B_le D U c
  rw [hb] at h0 h6
  have h7 : q.length ≤ 6 := h6
  rcases h0 with h0 | h0
  · rw [e] at h0
    exact nI_pos (by omega) h0
  · rw [e] at h0
    have h8 : nI q.length ≤ nI i := h0
    rw [nI_leI (by omega) (by omega)] at h8
    omega
theorem vq_step (h : vq_H D sf gf gt au li rv he aT aE is su ik sk fr tt te re hY an) (hQ : ∀ aX pa cl nl rl pl vY le st fo co ls ne na pY ro, Q ((nI (tp_m D)), aX, (tp_ie D), (tp_se D), sf, gf, gt, au, li, (tp_al D), (tp_ba D), (tp_po D), rv, he, aT, aE, pa, cl, nl, rl, pl) ((nI (tp_m D)), vY, is, su, ik, sk, fr, tt, te, re, hY, an, le, st, fo, co, ls, ne, na, pY, ro)) (v1 v2 v3 : Int32) : wpX_step (fun r u => wpY_step (fun r' v => r' = r ∧ Q u v) ((nI (tp_m D)), vY, is, su, ik, sk, fr, tt, te, re, hY, an, le, st, fo, co, ls, ne, na, pY, ro) v1 v2 v3) ((nI (tp_m D)), aX, (tp_ie D), (tp_se D), sf, gf, gt, au, li, (tp_al D), (tp_ba D), (tp_po D), rv, he, aT, aE, pa, cl, nl, rl, pl) v1 v2 v3 := by
  obtain ⟨hS, hT, hk, hV⟩ := h
  rcases vq_cert v1 hS.1 with hb | ⟨c, hc, rfl⟩
  · refine tx_step_c hb ?_
    refine ty_step_c hb ?_
    exact ⟨rfl, hQ _ _ _ _ _ _ _ _ _ _ _ _ _ _ _ _⟩
  rcases vq_time v2 with hb | ⟨t, ht, rfl⟩
  · refine tx_step_t hS.1 hc hb ?_
    refine ty_step_t hS.1 hc hb ?_
    exact ⟨rfl, hQ _ _ _ _ _ _ _ _ _ _ _ _ _ _ _ _⟩
  refine tx_step hS hc ht rfl (fun h0 aX pa cl nl rl pl => ?_) (fun i q e hb hi aX pa cl nl rl pl hpa => ?_)
  · refine ty_step hT hc ht (hV t ht) (fun _ vY le st fo co ls ne na pY ro => ?_) (fun i q e hb hi vY le st fo co ls ne na pY ro _ => ?_)
    · exact ⟨rfl, hQ _ _ _ _ _ _ _ _ _ _ _ _ _ _ _ _⟩
    · exact absurd (vq_no h0 e hb hi) id
  · refine ty_step hT hc ht (hV t ht) (fun h0 vY le st fo co ls ne na pY ro => ?_) (fun i2 q2 e2 hb2 hi2 vY le st fo co ls ne na pY ro hst => ?_)
    · exact absurd (vq_no h0 e hb hi) id
    · have h6 := tp_B_le D (tp_mk (tx_ok gf gt rv he (nI t)) (tp_m D)) c
      rw [hb] at hb2 h6
      have h7 : q.length ≤ 6 := h6
      have eq : q = q2 := Option.some.inj hb2
      rw [← eq] at hst hi2
      have ei : i = i2 := (nI_eq (by omega) (by omega)).mp (e.symm.trans e2)
      rw [← ei]
      exact ⟨(tp_st_two q hpa hst i hi).symm, hQ _ _ _ _ _ _ _ _ _ _ _ _ _ _ _ _⟩
theorem vq_count (h : vq_H D sf gf gt au li rv he aT aE is su ik sk fr tt te re hY an) (hQ : ∀ aX pa cl nl rl pl vY le st fo co ls ne na pY ro, Q ((nI (tp_m D)), aX, (tp_ie D), (tp_se D), sf, gf, gt, au, li, (tp_al D), (tp_ba D), (tp_po D), rv, he, aT, aE, pa, cl, nl, rl, pl) ((nI (tp_m D)), vY, is, su, ik, sk, fr, tt, te, re, hY, an, le, st, fo, co, ls, ne, na, pY, ro)) (v1 : Int32) : wpX_count (fun r u => wpY_count (fun r' v => r' = r ∧ Q u v) ((nI (tp_m D)), vY, is, su, ik, sk, fr, tt, te, re, hY, an, le, st, fo, co, ls, ne, na, pY, ro) v1) ((nI (tp_m D)), aX, (tp_ie D), (tp_se D), sf, gf, gt, au, li, (tp_al D), (tp_ba D), (tp_po D), rv, he, aT, aE, pa, cl, nl, rl, pl) v1 := by
  obtain ⟨hS, hT, hk, hV⟩ := h
  rcases vq_time v1 with hb | ⟨t, ht, rfl⟩
  · refine tx_cnt_t hb ?_
    refine ty_cnt_t hb ?_
    exact ⟨rfl, hQ _ _ _ _ _ _ _ _ _ _ _ _ _ _ _ _⟩
  refine tx_cnt hS ht rfl (fun aX pa cl nl rl pl => ?_)
  refine ty_cnt hT ht (hV t ht) (fun vY le st fo co ls ne na pY ro => ?_)
  exact ⟨rfl, hQ _ _ _ _ _ _ _ _ _ _ _ _ _ _ _ _⟩
theorem vq_keysOf (h : vq_H D sf gf gt au li rv he aT aE is su ik sk fr tt te re hY an) (hQ : ∀ aX pa cl nl rl pl vY le st fo co ls ne na pY ro, Q ((nI (tp_m D)), aX, (tp_ie D), (tp_se D), sf, gf, gt, au, li, (tp_al D), (tp_ba D), (tp_po D), rv, he, aT, aE, pa, cl, nl, rl, pl) ((nI (tp_m D)), vY, is, su, ik, sk, fr, tt, te, re, hY, an, le, st, fo, co, ls, ne, na, pY, ro)) (v1 v2 v3 : Int32) : wpX_keysOf (fun r u => wpY_keysOf (fun r' v => r' = r ∧ Q u v) ((nI (tp_m D)), vY, is, su, ik, sk, fr, tt, te, re, hY, an, le, st, fo, co, ls, ne, na, pY, ro) v1 v2 v3) ((nI (tp_m D)), aX, (tp_ie D), (tp_se D), sf, gf, gt, au, li, (tp_al D), (tp_ba D), (tp_po D), rv, he, aT, aE, pa, cl, nl, rl, pl) v1 v2 v3 := by
  obtain ⟨hS, hT, hk, hV⟩ := h
  rcases vq_cert v1 (m := 8) (by omega) with hb | ⟨a, ha, rfl⟩
  · refine tx_keys_n hb ?_
    refine ty_keys_n hb ?_
    exact ⟨rfl, hQ _ _ _ _ _ _ _ _ _ _ _ _ _ _ _ _⟩
  rcases vq_time v2 with hb | ⟨t, ht, rfl⟩
  · refine tx_keys_t ha hb ?_
    refine ty_keys_t ha hb ?_
    exact ⟨rfl, hQ _ _ _ _ _ _ _ _ _ _ _ _ _ _ _ _⟩
  rcases vq_cert v3 (m := 4) (by omega) with hb | ⟨p, hp, rfl⟩
  · refine tx_keys_p ha ht hb ?_
    refine ty_keys_p ha ht hb ?_
    exact ⟨rfl, hQ _ _ _ _ _ _ _ _ _ _ _ _ _ _ _ _⟩
  refine tx_keys hS ha ht hp rfl (fun aX pa cl nl rl pl => ?_)
  refine ty_keys hT hk ha ht hp (hV t ht) (fun vY le st fo co ls ne na pY ro => ?_)
  exact ⟨rfl, hQ _ _ _ _ _ _ _ _ _ _ _ _ _ _ _ _⟩
end
