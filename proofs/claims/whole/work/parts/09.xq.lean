/-! the loops of the component's questions -/
def tp_tr (D : tp_D) (U : Int32) (c : Nat) : Bool := decide (0 < tp_ln (tp_B D U c))
section
variable {D : tp_D} {sf gf gt au li rv he aT aE : Nat → Int32}
theorem tx_count4 {post : Int32 → SX → Prop} {U : Int32} (hS : tx_S D sf au li aT aE) (H : ∀ aX pa cl nl rl pl, post (nI (tp_cn (tp_tr D U) (tp_m D))) ((nI (tp_m D)), aX, (tp_ie D), (tp_se D), sf, gf, gt, au, li, (tp_al D), (tp_ba D), (tp_po D), rv, he, aT, aE, pa, cl, nl, rl, pl)) : ∀ (j c : Nat) (aX : Int32) (pa cl nl rl pl : Nat → Int32) (n : Nat), c + j = tp_m D → j < n → wX_countTrusted_4 post U n (nI (tp_cn (tp_tr D U) c)) (nI c) (nI (tp_m D)) aX (tp_ie D) (tp_se D) sf gf gt au li (tp_al D) (tp_ba D) (tp_po D) rv he aT aE pa cl nl rl pl := by
  have h12 := hS.1
  intro j
  induction j with
  | zero =>
    intro c aX pa cl nl rl pl n hj hn
    obtain ⟨n, rfl⟩ : ∃ k, n = k + 1 := ⟨n - 1, by omega⟩
    have e : c = tp_m D := by omega
    rw [e]
    exact br_t (nI_le (by omega) (by omega)) (H aX pa cl nl rl pl)
  | succ j ih =>
    intro c aX pa cl nl rl pl n hj hn
    obtain ⟨n, rfl⟩ : ∃ k, n = k + 1 := ⟨n - 1, by omega⟩
    rw [wX_countTrusted_4]
    dsimp only
    refine br_f (nI_ge (by omega) (by omega)) ?_
    refine tx_best15 hS (by omega) (fun aX' pa' cl' nl' rl' pl' _ => ?_)
    have hi := ih (c + 1) aX' pa' cl' nl' rl' pl' n (by omega) (by omega)
    have h6 := tp_B_le D U c
    rw [tp_cn] at hi
    by_cases h0 : 0 < tp_ln (tp_B D U c)
    · have ht : tp_tr D U c = true := decide_eq_true h0
      rw [if_pos ht] at hi
      exact br_f (nI_nle h0 (by omega)) (nm_r (nI_1 _) (nm_r (nI_1 c) hi))
    · have ht : ¬ tp_tr D U c = true := fun z => h0 (of_decide_eq_true z)
      rw [if_neg ht] at hi
      exact br_t (nI_le (b := 0) (by omega) (by omega)) (nm_r (nI_1 c) hi)
theorem tx_count {post : Int32 → SX → Prop} {U : Int32} {aX : Int32} {pa cl nl rl pl : Nat → Int32} (hS : tx_S D sf au li aT aE) (H : ∀ aX pa cl nl rl pl, post (nI (tp_cn (tp_tr D U) (tp_m D))) ((nI (tp_m D)), aX, (tp_ie D), (tp_se D), sf, gf, gt, au, li, (tp_al D), (tp_ba D), (tp_po D), rv, he, aT, aE, pa, cl, nl, rl, pl)) : wpX_countTrusted post ((nI (tp_m D)), aX, (tp_ie D), (tp_se D), sf, gf, gt, au, li, (tp_al D), (tp_ba D), (tp_po D), rv, he, aT, aE, pa, cl, nl, rl, pl) U :=
  ⟨tp_m D + 1, tx_count4 hS H (tp_m D) 0 aX pa cl nl rl pl _ (by omega) (by omega)⟩
theorem tx_pol30 {post : Int32 → SX → Prop} {U : Int32} {T : Nat} (hS : tx_S D sf au li aT aE) (hT : T < tp_m D) (H : ∀ aX pa cl nl rl pl, post (tp_mk (tp_Q D U T) 4) ((nI (tp_m D)), aX, (tp_ie D), (tp_se D), sf, gf, gt, au, li, (tp_al D), (tp_ba D), (tp_po D), rv, he, aT, aE, pa, cl, nl, rl, pl)) : ∀ (j p : Nat) (aX : Int32) (pa cl nl rl pl : Nat → Int32) (n : Nat), p + j = 4 → j < n → wX_policies_30 post (nI T) U n (tp_mk (tp_Q D U T) p) (nI p) (nI (tp_m D)) aX (tp_ie D) (tp_se D) sf gf gt au li (tp_al D) (tp_ba D) (tp_po D) rv he aT aE pa cl nl rl pl := by
  intro j
  induction j with
  | zero =>
    intro c aX pa cl nl rl pl n hj hn
    obtain ⟨n, rfl⟩ : ∃ k, n = k + 1 := ⟨n - 1, by omega⟩
    have e : c = 4 := by omega
    rw [e]
    exact br_t (nI_le (a := 4) (by omega) (by omega)) (H aX pa cl nl rl pl)
  | succ j ih =>
    intro c aX pa cl nl rl pl n hj hn
    obtain ⟨n, rfl⟩ : ∃ k, n = k + 1 := ⟨n - 1, by omega⟩
    rw [wX_policies_30]
    dsimp only
    refine br_f (nI_ge (b := 4) (by omega) (by omega)) ?_
    refine tx_bestQ hS hT (by omega) (fun r aX' pa' cl' nl' rl' pl' h6 hr => ?_)
    have hi := ih (c + 1) aX' pa' cl' nl' rl' pl' n (by omega) (by omega)
    rw [tp_mk] at hi
    by_cases h0 : tp_Q D U T c = true
    · rw [if_pos h0] at hi
      have h1 : 0 < r := Nat.pos_of_ne_zero (fun z => (hr.mp z) h0)
      exact br_f (nI_nle h1 (by omega)) (nm_e (nm_r (nI_1 c) hi))
    · rw [if_neg h0] at hi
      have h1 : r = 0 := hr.mpr h0
      rw [h1]
      exact br_t (nI_le (b := 0) (by omega) (by omega)) (nm_r (nI_1 c) hi)
def tp_kf (D : tp_D) (U : Int32) (v : Int32) (p : Nat) (c : Nat) : Bool := decide (tp_se D c / 10 = v) && tp_Q D U c p
def tp_kx (D : tp_D) (c : Nat) : Int32 := tp_se D c - tp_se D c / 10 * 10
theorem tx_keys42 {post : Int32 → SX → Prop} {U v : Int32} {p : Nat} (hS : tx_S D sf au li aT aE) (hp : p < 4) (H : ∀ aX pa cl nl rl pl, post (tp_ks (tp_kf D U v p) (tp_kx D) (tp_m D)) ((nI (tp_m D)), aX, (tp_ie D), (tp_se D), sf, gf, gt, au, li, (tp_al D), (tp_ba D), (tp_po D), rv, he, aT, aE, pa, cl, nl, rl, pl)) : ∀ (j c : Nat) (aX : Int32) (pa cl nl rl pl : Nat → Int32) (n : Nat), c + j = tp_m D → j < n → wX_keysOf_42 post v (nI p) U n (tp_ks (tp_kf D U v p) (tp_kx D) c) (nI c) (nI (tp_m D)) aX (tp_ie D) (tp_se D) sf gf gt au li (tp_al D) (tp_ba D) (tp_po D) rv he aT aE pa cl nl rl pl := by
  have h12 := hS.1
  intro j
  induction j with
  | zero =>
    intro c aX pa cl nl rl pl n hj hn
    obtain ⟨n, rfl⟩ : ∃ k, n = k + 1 := ⟨n - 1, by omega⟩
    have e : c = tp_m D := by omega
    rw [e]
    exact br_t (nI_le (by omega) (by omega)) (H aX pa cl nl rl pl)
  | succ j ih =>
    intro c aX pa cl nl rl pl n hj hn
    obtain ⟨n, rfl⟩ : ∃ k, n = k + 1 := ⟨n - 1, by omega⟩
    have e2 : (nI c).toNatClampNeg = c := nI_clamp (by omega)
    have vv : vp_in (nI c) 12 := vp_in_nI (by omega) (by omega)
    rw [wX_keysOf_42]
    dsimp only
    rw [e2]
    refine br_f (nI_ge (by omega) (by omega)) ⟨vv, by decide, ?_⟩
    by_cases hv : tp_se D c / 10 = v
    · refine br_t hv ?_
      refine tx_bestQ hS (by omega) hp (fun r aX' pa' cl' nl' rl' pl' h6 hr => ?_)
      have hi := ih (c + 1) aX' pa' cl' nl' rl' pl' n (by omega) (by omega)
      rw [tp_ks] at hi
      by_cases h0 : tp_Q D U c p = true
      · rw [if_pos (by unfold tp_kf; rw [decide_eq_true hv, h0]; rfl)] at hi
        have h1 : 0 < r := Nat.pos_of_ne_zero (fun z => (hr.mp z) h0)
        refine br_f (nI_nle h1 (by omega)) ?_
        exact ⟨vv, by decide, nm_e (nm_r (nI_1 c) hi)⟩
      · rw [if_neg (by unfold tp_kf; rw [Bool.and_eq_true]; exact fun z => h0 z.2)] at hi
        have h1 : r = 0 := hr.mpr h0
        rw [h1]
        exact br_t (nI_le (b := 0) (by omega) (by omega)) (nm_r (nI_1 c) hi)
    · have hi := ih (c + 1) aX pa cl nl rl pl n (by omega) (by omega)
      rw [tp_ks, if_neg (by unfold tp_kf; rw [Bool.and_eq_true]; exact fun z => hv (of_decide_eq_true z.1))] at hi
      exact br_f hv (nm_r (nI_1 c) hi)
def tp_ug (D : tp_D) (V : Nat → Int32) (T : Nat) (t : Nat) : Bool := decide (tp_ln (tp_B D (V t) T) = 0)
theorem tx_until24 {post : Int32 → SX → Prop} {T : Nat} {V : Nat → Int32} (hS : tx_S D sf au li aT aE) (hT : T < tp_m D) (hV : ∀ t, t ≤ 100 → V t = tp_mk (tx_ok gf gt rv he (nI t)) (tp_m D)) : ∀ (j t : Nat) (r : Int32) (aX : Int32) (pa cl nl rl pl : Nat → Int32) (n : Nat), t + j = 101 → j < n → (∀ aX pa cl nl rl pl, post (tp_un (tp_ug D V T) j t r) ((nI (tp_m D)), aX, (tp_ie D), (tp_se D), sf, gf, gt, au, li, (tp_al D), (tp_ba D), (tp_po D), rv, he, aT, aE, pa, cl, nl, rl, pl)) → wX_until_24 post (nI T) n r (nI t) (nI (tp_m D)) aX (tp_ie D) (tp_se D) sf gf gt au li (tp_al D) (tp_ba D) (tp_po D) rv he aT aE pa cl nl rl pl := by
  have h12 := hS.1
  intro j
  induction j with
  | zero =>
    intro t r aX pa cl nl rl pl n hj hn H
    obtain ⟨n, rfl⟩ : ∃ k, n = k + 1 := ⟨n - 1, by omega⟩
    exact br_t (nI_lt (a := 100) (by omega) (by omega)) (H aX pa cl nl rl pl)
  | succ j ih =>
    intro t r aX pa cl nl rl pl n hj hn H
    obtain ⟨n, rfl⟩ : ∃ k, n = k + 1 := ⟨n - 1, by omega⟩
    rw [wX_until_24]
    dsimp only
    refine br_f (nI_nlt (a := 100) (by omega) (by omega)) ?_
    refine tx_us h12 ?_
    rw [← hV t (by omega)]
    refine tx_best15 hS hT (fun aX' pa' cl' nl' rl' pl' _ => ?_)
    have h6 := tp_B_le D (V t) T
    rw [tp_un] at H
    by_cases h0 : tp_ln (tp_B D (V t) T) = 0
    · have ht : tp_ug D V T t = true := decide_eq_true h0
      rw [if_pos ht] at H
      exact br_t (by rw [h0]; rfl) (H aX' pa' cl' nl' rl' pl')
    · have ht : ¬ tp_ug D V T t = true := fun z => h0 (of_decide_eq_true z)
      rw [if_neg ht] at H
      exact br_f (nI_ne0 (by omega) (by omega)) (nm_r (nI_1 t) (ih (t + 1) (nI t) aX' pa' cl' nl' rl' pl' n (by omega) (by omega) H))
def tp_nf (D : tp_D) (U : Int32) (T : Nat) (o : Nat) : Bool := !decide (o = T) && tp_C D U T o
theorem tx_narrow41 {post : Int32 → SX → Prop} {U : Int32} {T : Nat} (hS : tx_S D sf au li aT aE) (hT : T < tp_m D) : ∀ (j c : Nat) (aX : Int32) (pa cl nl rl pl : Nat → Int32) (n : Nat), c + j = tp_m D → j < n → (∀ aX pa cl nl rl pl, post (tp_fs (tp_nf D U T) j c) ((nI (tp_m D)), aX, (tp_ie D), (tp_se D), sf, gf, gt, au, li, (tp_al D), (tp_ba D), (tp_po D), rv, he, aT, aE, pa, cl, nl, rl, pl)) → wX_narrow_41 post (nI T) U n (nI c) (nI (tp_m D)) aX (tp_ie D) (tp_se D) sf gf gt au li (tp_al D) (tp_ba D) (tp_po D) rv he aT aE pa cl nl rl pl := by
  have h12 := hS.1
  intro j
  induction j with
  | zero =>
    intro c aX pa cl nl rl pl n hj hn H
    obtain ⟨n, rfl⟩ : ∃ k, n = k + 1 := ⟨n - 1, by omega⟩
    exact br_t (nI_le (by omega) (by omega)) (H aX pa cl nl rl pl)
  | succ j ih =>
    intro c aX pa cl nl rl pl n hj hn H
    obtain ⟨n, rfl⟩ : ∃ k, n = k + 1 := ⟨n - 1, by omega⟩
    rw [wX_narrow_41]
    dsimp only
    refine br_f (nI_ge (by omega) (by omega)) (nm_e ?_)
    rw [tp_fs] at H
    by_cases hc : c = T
    · rw [if_neg (by unfold tp_nf; rw [decide_eq_true hc]; simp)] at H
      exact br_t (by rw [hc]) (nm_r (nI_1 c) (ih (c + 1) aX pa cl nl rl pl n (by omega) (by omega) H))
    · refine br_f (fun z => hc ((nI_eq (by omega) (by omega)).mp z)) ?_
      refine tx_bestC hS hT (by omega) hc (fun r aX' pa' cl' nl' rl' pl' h6 hr => ?_)
      by_cases h0 : tp_C D U T c = true
      · rw [if_pos (by unfold tp_nf; rw [decide_eq_false hc, h0]; rfl)] at H
        have h1 : r = 0 := hr.mpr h0
        rw [h1]
        exact br_t rfl (H aX' pa' cl' nl' rl' pl')
      · rw [if_neg (by unfold tp_nf; rw [Bool.and_eq_true]; exact fun z => h0 z.2)] at H
        have h1 : 0 < r := Nat.pos_of_ne_zero (fun z => h0 (hr.mp z))
        exact br_f (nI_ne0 h1 (by omega)) (nm_r (nI_1 c) (ih (c + 1) aX' pa' cl' nl' rl' pl' n (by omega) (by omega) H))
end
