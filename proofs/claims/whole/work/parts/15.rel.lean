/-! the relation -/
theorem tn_0 : vp_nar .boolean 0 = 0 := rfl
theorem tn_1 : vp_nar .boolean 1 = 1 := rfl
def tr_E (ie se sf is su ik sk : Nat → Int32) (c : Nat) : Prop := ∃ i s p q : Nat, i < 8 ∧ s < 8 ∧ p < 10 ∧ q < 10 ∧ is c = nI i ∧ su c = nI s ∧ ik c = nI p ∧ sk c = nI q ∧ ie c = nI (10 * i + p) ∧ se c = nI (10 * s + q) ∧ (sf c = 0 ↔ ¬ i = s)
def tr_T (au li al ba po te : Nat → Int32) (c : Nat) : Prop := te (5 * c) = au c ∧ (au c = 0 ∨ au c = 1) ∧ te (5 * c + 1) = li c ∧ (∃ q : Nat, q ≤ 4 ∧ li c = nI q) ∧ te (5 * c + 2) = al c ∧ te (5 * c + 3) = ba c ∧ te (5 * c + 4) = po c
def tr_V (rv re : Nat → Int32) (c : Nat) : Prop := (rv c = 101 ∧ re c = 1000) ∨ ∃ t : Nat, t ≤ 100 ∧ rv c = nI t ∧ re c = nI t
def tr_A (aT aE an : Nat → Int32) (a : Nat) : Prop := (aT a = 0 ∧ an a = -1) ∨ (¬ aT a = 0 ∧ ∃ e : Nat, e < 80 ∧ aE a = nI e ∧ an a = nI e)
def tr_R (mX mY : Int32) (ie se sf gf gt au li al ba po rv he aT aE is su ik sk fr tt te re hY an : Nat → Int32) : Prop :=
  ∃ m : Nat, m ≤ 12 ∧ mX = nI m ∧ mY = nI m ∧ gf = fr ∧ gt = tt ∧ he = hY ∧ (∀ c, m ≤ c → he c = 0) ∧ (∀ c, c < m → tr_E ie se sf is su ik sk c) ∧ (∀ c, c < m → tr_T au li al ba po te c) ∧ (∀ c, c < m → tr_V rv re c) ∧ (∀ a, a < 3 → tr_A aT aE an a)
def i_Rel (_ : Nat) (u : SX) (v : SY) : Prop := match u, v with
  | (mX, aX, ie, se, sf, gf, gt, au, li, al, ba, po, rv, he, aT, aE, pa, cl, nl, rl, pl), (mY, vY, is, su, ik, sk, fr, tt, te, re, hY, an, le, st, fo, co, ls, ne, na, pY, ro) => tr_R mX mY ie se sf gf gt au li al ba po rv he aT aE is su ik sk fr tt te re hY an
theorem i_up {k : Nat} {u : SX} {v : SY} (h : i_Rel k u v) : i_Rel (k + 4) u v := h
def tr_D (m : Nat) (ie se sf au li al ba po aT aE : Nat → Int32) : tp_D := (m, ie, se, po, al, ba, fun c => decide (au c = 1), fun c => !decide (sf c = 0), fun c => tx_aa aT aE (ie c) 3, fun c => (li c).toNatClampNeg)
section
variable {m : Nat} {ie se sf gf gt au li al ba po rv he aT aE is su ik sk te re an : Nat → Int32}
theorem tr_S (h12 : m ≤ 12) (hT : ∀ c, c < m → tr_T au li al ba po te c) : tx_S (tr_D m ie se sf au li al ba po aT aE) sf au li aT aE := by
  refine ⟨h12, fun c hc => ?_, fun c hc => ?_, fun c hc => ?_, fun c hc => rfl⟩
  · exact ⟨fun z => decide_eq_true z, fun z => of_decide_eq_true z⟩
  · show sf c = 0 ↔ ¬ (!decide (sf c = 0)) = true
    simp
  · obtain ⟨_, _, _, ⟨q, q1, q2⟩, _⟩ := hT c hc
    show li c = nI (li c).toNatClampNeg ∧ (li c).toNatClampNeg ≤ 4
    rw [q2, nI_clamp (by omega)]
    exact ⟨rfl, q1⟩
theorem tr_aa {v : Int32} {e : Nat} (he : e < 80) (hv : v = nI e) (hA : ∀ a, a < 3 → tr_A aT aE an a) {a : Nat} (ha : a < 3) : (!decide (aT a = 0) && decide (aE a = v)) = true ↔ v = an a := by
  rw [Bool.and_eq_true, Bool.not_eq_true', decide_eq_false_iff_not, decide_eq_true_eq]
  rcases hA a ha with ⟨h1, h2⟩ | ⟨h1, e2, h2, h3, h4⟩
  · constructor
    · intro z; exact absurd h1 z.1
    · intro z
      exfalso
      rw [h2, hv] at z
      have z2 : (nI e).toInt = -1 := by rw [z]; decide
      rw [nI_toInt (by omega)] at z2
      omega
  · rw [h3, h4]
    exact ⟨fun z => z.2.symm, fun z => ⟨h1, z.symm⟩⟩
theorem tr_Y (h12 : m ≤ 12) (hE : ∀ c, c < m → tr_E ie se sf is su ik sk c) (hT : ∀ c, c < m → tr_T au li al ba po te c) (hA : ∀ a, a < 3 → tr_A aT aE an a) : ty_S (tr_D m ie se sf au li al ba po aT aE) is su ik sk te an := by
  refine ⟨h12, fun c hc => ?_⟩
  obtain ⟨i, s, p, q, hi, hs, hp, hq, e1, e2, e3, e4, e5, e6, e7⟩ := hE c hc
  obtain ⟨t1, t2, t3, ⟨f, f1, f2⟩, t4, t5, t6⟩ := hT c hc
  have m10 : ∀ x : Nat, (10 : Int32) * nI x = nI (10 * x) := fun x => pk_mul 10 x
  refine ⟨?_, ?_, ?_, ?_, ?_, ?_, ?_, t4, t5, t6, ?_⟩
  · show (10 : Int32) * is c + ik c = ie c
    rw [e1, e3, e5, m10, nI_add]
  · show (10 : Int32) * su c + sk c = se c
    rw [e2, e4, e6, m10, nI_add]
  · show se c / 10 = su c
    rw [e6, e2]
    have := pk_div (a := 10 * s + q) (d := 10) (by omega) (by omega) (by omega)
    rw [show (10 * s + q) / 10 = s by omega] at this
    exact this
  · show is c = su c ↔ (!decide (sf c = 0)) = true
    rw [e1, e2, nI_eq (by omega) (by omega), Bool.not_eq_true', decide_eq_false_iff_not, e7]
    exact ⟨fun z y => y z, fun z => Classical.byContradiction z⟩
  · show te (5 * c) = 0 ↔ ¬ decide (au c = 1) = true
    rw [t1, decide_eq_true_eq]
    rcases t2 with z | z
    · rw [z]; decide
    · rw [z]; decide
  · show te (5 * c + 1) = nI (li c).toNatClampNeg
    rw [t3, f2, nI_clamp (by omega)]
  · show (li c).toNatClampNeg ≤ 4
    rw [f2, nI_clamp (by omega)]
    exact f1
  · show tx_aa aT aE (ie c) 3 = true ↔ (ie c = an 0 ∨ ie c = an 1 ∨ ie c = an 2)
    rw [← tr_aa (by omega) e5 hA (a := 0) (by omega), ← tr_aa (by omega) e5 hA (a := 1) (by omega), ← tr_aa (by omega) e5 hA (a := 2) (by omega)]
    simp only [tx_aa, Bool.or_eq_true, Bool.false_eq_true, false_or, or_assoc]
theorem tr_H (h12 : m ≤ 12) (hE : ∀ c, c < m → tr_E ie se sf is su ik sk c) (hT : ∀ c, c < m → tr_T au li al ba po te c) (hV : ∀ c, c < m → tr_V rv re c) (hA : ∀ a, a < 3 → tr_A aT aE an a) : vq_H (tr_D m ie se sf au li al ba po aT aE) sf gf gt au li rv he aT aE is su ik sk gf gt te re he an := by
  refine ⟨tr_S h12 hT, tr_Y h12 hE hT hA, fun c hc => ?_, fun t ht => ?_⟩
  · obtain ⟨i, s, p, q, hi, hs, hp, hq, e1, e2, e3, e4, e5, e6, e7⟩ := hE c hc
    show sk c = se c - se c / 10 * 10
    rw [e4, e6]
    have := pk_rem (a := 10 * s + q) (d := 10) (by omega) (by omega) (by omega)
    rw [show (10 * s + q) % 10 = q by omega] at this
    exact this.symm
  · apply tp_mk_congr
    intro c hc
    have e : re c ≤ nI t ↔ rv c ≤ nI t := by
      rcases hV c hc with ⟨h1, h2⟩ | ⟨x, x1, x2, x3⟩
      · rw [h1, h2]
        constructor
        · intro z
          exact absurd z (nI_ge (b := 1000) (by omega) (by omega))
        · intro z
          exact absurd z (nI_ge (b := 101) (by omega) (by omega))
      · rw [x2, x3]
    unfold tx_ok
    rw [decide_eq_decide.mpr e]
end
/-! make, method by method -/
section
variable {m : Nat} {aX : Int32} {ie se sf gf gt au li al ba po rv he aT aE pa cl nl rl pl : Nat → Int32} {vY : Int32} {is su ik sk fr tt te re hY an le st fo co ls ne na pY ro : Nat → Int32}
theorem tx_make100 {post : Int32 → SX → Prop} (hm : m < 12) {z : Int32} (h : post (nI m) ((nI (m + 1)), aX, ie, se, upd sf m (vp_nar .boolean z), upd gf m 0, upd gt m 100, upd au m 1, upd li m 4, upd al m 255, upd ba m 0, upd po m 15, upd rv m 101, upd he m 0, aT, aE, pa, cl, nl, rl, pl)) : wX_make_100 post (nI m) z (nI m) (nI m) aX ie se sf gf gt au li al ba po rv he aT aE pa cl nl rl pl := by
  have e : (nI m).toNatClampNeg = m := nI_clamp (by omega)
  have v : vp_in (nI m) 12 := vp_in_nI (by omega) (by omega)
  unfold wX_make_100
  rw [e]
  exact ⟨v, nm_e ⟨v, nm_e ⟨v, nm_e ⟨v, nm_e ⟨v, nm_e ⟨v, nm_e ⟨v, nm_e ⟨v, nm_e ⟨v, nm_e ⟨v, nm_e (nm_r (nI_1 m) h)⟩⟩⟩⟩⟩⟩⟩⟩⟩⟩
theorem tx_make {post : Int32 → SX → Prop} {a b : Nat} (hm : m < 12) (ha : a < 64) (hb : b < 100) (h : ∀ z : Int32, (z = 0 ↔ ¬ a / 8 = a % 8) → post (nI m) ((nI (m + 1)), aX, upd ie m (nI (10 * (a / 8) + b / 10)), upd se m (nI (10 * (a % 8) + b % 10)), upd sf m z, upd gf m 0, upd gt m 100, upd au m 1, upd li m 4, upd al m 255, upd ba m 0, upd po m 15, upd rv m 101, upd he m 0, aT, aE, pa, cl, nl, rl, pl)) : wpX_make post ((nI m), aX, ie, se, sf, gf, gt, au, li, al, ba, po, rv, he, aT, aE, pa, cl, nl, rl, pl) (nI a) (nI b) := by
  have e : (nI m).toNatClampNeg = m := nI_clamp (by omega)
  have v : vp_in (nI m) 12 := vp_in_nI (by omega) (by omega)
  have d1 : nI a / 8 = nI (a / 8) := pk_div (d := 8) (by omega) (by omega) (by omega)
  have d2 : nI a - nI a / 8 * 8 = nI (a % 8) := pk_rem (d := 8) (by omega) (by omega) (by omega)
  have d3 : nI b / 10 = nI (b / 10) := pk_div (d := 10) (by omega) (by omega) (by omega)
  have d4 : nI b - nI b / 10 * 10 = nI (b % 10) := pk_rem (d := 10) (by omega) (by omega) (by omega)
  have m10 : ∀ x : Nat, (10 : Int32) * nI x = nI (10 * x) := fun x => pk_mul 10 x
  have n8 : ¬ (8 : Int32) = 0 := by decide
  have n10 : ¬ (10 : Int32) = 0 := by decide
  unfold wpX_make
  dsimp only
  rw [e, d2, d4, d1, d3]
  refine br_f (nI_pos (by omega)) (br_f (nI_ge (b := 64) (by omega) (by omega)) (br_f (nI_pos (by omega)) (br_t (nI_lt (b := 100) (by omega) (by omega)) (br_t (nI_lt (b := 12) (by omega) (by omega)) ⟨n8, nm_e ⟨n8, nm_e ⟨n10, v, ?_⟩⟩⟩))))
  rw [m10, nI_add]
  refine nm_e ⟨n10, v, ?_⟩
  rw [m10, nI_add]
  refine nm_e ?_
  by_cases g : a / 8 = a % 8
  · refine br_t (by rw [g]) ?_
    refine tx_make100 hm ?_
    rw [tn_1]
    exact h 1 ⟨fun z => absurd z (by decide), fun z => absurd g z⟩
  · refine br_f (fun z => g ((nI_eq (by omega) (by omega)).mp z)) ?_
    refine tx_make100 hm ?_
    rw [tn_0]
    exact h 0 ⟨fun _ => g, fun _ => rfl⟩
theorem ty_make {post : Int32 → SY → Prop} {a b : Nat} (hm : m < 12) (ha : a < 64) (hb : b < 100) (h : post (nI m) ((nI (m + 1)), vY, upd is m (nI (a / 8)), upd su m (nI (a % 8)), upd ik m (nI (b / 10)), upd sk m (nI (b % 10)), upd fr m 0, upd tt m 100, upd (upd (upd (upd (upd te (5 * m) 1) (5 * m + 1) 4) (5 * m + 2) 255) (5 * m + 3) 0) (5 * m + 4) 15, upd re m 1000, hY, an, le, st, fo, co, ls, ne, na, pY, ro)) : wpY_make post ((nI m), vY, is, su, ik, sk, fr, tt, te, re, hY, an, le, st, fo, co, ls, ne, na, pY, ro) (nI a) (nI b) := by
  have e : (nI m).toNatClampNeg = m := nI_clamp (by omega)
  have v : vp_in (nI m) 12 := vp_in_nI (by omega) (by omega)
  have d1 : nI a / 8 = nI (a / 8) := pk_div (d := 8) (by omega) (by omega) (by omega)
  have d2 : nI a - nI a / 8 * 8 = nI (a % 8) := pk_rem (d := 8) (by omega) (by omega) (by omega)
  have d3 : nI b / 10 = nI (b / 10) := pk_div (d := 10) (by omega) (by omega) (by omega)
  have d4 : nI b - nI b / 10 * 10 = nI (b % 10) := pk_rem (d := 10) (by omega) (by omega) (by omega)
  have n8 : ¬ (8 : Int32) = 0 := by decide
  have n10 : ¬ (10 : Int32) = 0 := by decide
  have f0 : (nI (5 * m)).toNatClampNeg = 5 * m := nI_clamp (by omega)
  have f1 : (nI (5 * m + 1)).toNatClampNeg = 5 * m + 1 := nI_clamp (by omega)
  have f2 : (nI (5 * m + 2)).toNatClampNeg = 5 * m + 2 := nI_clamp (by omega)
  have f3 : (nI (5 * m + 3)).toNatClampNeg = 5 * m + 3 := nI_clamp (by omega)
  have f4 : (nI (5 * m + 4)).toNatClampNeg = 5 * m + 4 := nI_clamp (by omega)
  have w0 : vp_in (nI (5 * m)) 60 := vp_in_nI (by omega) (by omega)
  have w1 : vp_in (nI (5 * m + 1)) 60 := vp_in_nI (by omega) (by omega)
  have w2 : vp_in (nI (5 * m + 2)) 60 := vp_in_nI (by omega) (by omega)
  have w3 : vp_in (nI (5 * m + 3)) 60 := vp_in_nI (by omega) (by omega)
  have w4 : vp_in (nI (5 * m + 4)) 60 := vp_in_nI (by omega) (by omega)
  unfold wpY_make
  dsimp only
  rw [ty_5k m 1 (x := 1) rfl, ty_5k m 2 (x := 2) rfl, ty_5k m 3 (x := 3) rfl, ty_5k m 4 (x := 4) rfl, ty_5 m, e, f0, f1, f2, f3, f4, d2, d4, d1, d3]
  refine br_f (nI_pos (by omega)) (br_f (nI_nlt (a := 63) (by omega) (by omega)) (br_f (nI_pos (by omega)) (br_t (nI_le (b := 99) (by omega) (by omega)) (br_f (fun z => ?_) ⟨n8, v, nm_e ⟨n8, v, nm_e ⟨n10, v, nm_e ⟨n10, v, nm_e ⟨v, nm_e ⟨v, nm_e ⟨w0, nm_e ⟨w1, nm_e ⟨w2, nm_e ⟨w3, nm_e ⟨w4, nm_e ⟨v, nm_e (nm_r (nI_1 m) h)⟩⟩⟩⟩⟩⟩⟩⟩⟩⟩⟩⟩))))
  have z2 := (nI_eq (a := m) (b := 12) (by omega) (by omega)).mp z
  omega
end
