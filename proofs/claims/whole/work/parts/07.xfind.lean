/-! the component's search -/
section
variable {D : tp_D} {u : Nat → Bool} {T : Nat} {w : Int32} {aX : Int32} {sf gf gt au li rv he aT aE pa cl nl rl pl : Nat → Int32} {l : List Nat} {c : Nat}
theorem tx_anch14 {post : Int32 → Prop} {J4 : Int32 → Int32 → Prop} (hS : tx_S D sf au li aT aE) (hc : c < tp_m D) : ∀ j a x n, a + j = 3 → j < n → (∀ i, i < 32 → bt x i = ((decide (i < c) && tp_an D i) || (decide (i = c) && tx_aa aT aE (tp_ie D c) a))) → (∀ x', (∀ i, i < 32 → bt x' i = ((decide (i < c) && tp_an D i) || (decide (i = c) && tx_aa aT aE (tp_ie D c) 3))) → J4 x' (nI (c + 1))) → wX_anchoredCertificates_14 post J4 (nI c) (nI (tp_m D)) aX (tp_ie D) (tp_se D) sf gf gt au li (tp_al D) (tp_ba D) (tp_po D) rv he aT aE pa cl nl rl pl n x (nI a) := by
  have h12 := hS.1
  have e2 : (nI c).toNatClampNeg = c := nI_clamp (by omega)
  intro j
  induction j with
  | zero =>
    intro a x n hj hn hx hJ
    obtain ⟨n, rfl⟩ : ∃ k, n = k + 1 := ⟨n - 1, by omega⟩
    have ha : a = 3 := by omega
    rw [ha] at hx
    exact br_t (nI_le (a := 3) (by omega) (by omega)) (nm_r (nI_1 c) (hJ x hx))
  | succ j ih =>
    intro a x n hj hn hx hJ
    obtain ⟨n, rfl⟩ : ∃ k, n = k + 1 := ⟨n - 1, by omega⟩
    have e1 : (nI a).toNatClampNeg = a := nI_clamp (by omega)
    rw [wX_anchoredCertificates_14]
    dsimp only
    rw [e1, e2]
    refine br_f (nI_ge (b := 3) (by omega) (by omega)) ⟨vp_in_nI (by omega) (by omega), ?_⟩
    by_cases h0 : aT a = 0
    · refine br_t h0 (nm_r (nI_1 a) (ih (a + 1) x n (by omega) (by omega) ?_ hJ))
      intro i hi
      rw [hx i hi, tx_aa, decide_eq_true h0]
      simp
    · refine br_f h0 ⟨vp_in_nI (by omega) (by omega), vp_in_nI (by omega) (by omega), ?_⟩
      by_cases h1 : aE a = tp_ie D c
      · refine br_t h1 (nm_e (nm_r (nI_1 a) (ih (a + 1) _ n (by omega) (by omega) ?_ hJ)))
        intro i hi
        rw [tb_set _ (by omega) hi, hx i hi, tx_aa, decide_eq_false h0, decide_eq_true h1]
        by_cases e : i = c
        · simp [e]
        · simp [e]
      · refine br_f h1 (nm_r (nI_1 a) (ih (a + 1) x n (by omega) (by omega) ?_ hJ))
        intro i hi
        rw [hx i hi, tx_aa, decide_eq_false h1]
        simp
theorem tx_anch4 {post : Int32 → Prop} (hS : tx_S D sf au li aT aE) (h : ∀ x, (∀ c, c < tp_m D → bt x c = tp_an D c) → post x) : ∀ j c x n, c + j = tp_m D → j < n → (∀ i, i < 32 → bt x i = (decide (i < c) && tp_an D i)) → wX_anchoredCertificates_4 post (nI (tp_m D)) aX (tp_ie D) (tp_se D) sf gf gt au li (tp_al D) (tp_ba D) (tp_po D) rv he aT aE pa cl nl rl pl n x (nI c) := by
  have h12 := hS.1
  intro j
  induction j with
  | zero =>
    intro c x n hj hn hx
    obtain ⟨n, rfl⟩ : ∃ k, n = k + 1 := ⟨n - 1, by omega⟩
    refine br_t (nI_le (by omega) (by omega)) (h x ?_)
    intro d hd
    rw [hx d (by omega), decide_eq_true (by omega), Bool.true_and]
  | succ j ih =>
    intro c x n hj hn hx
    obtain ⟨n, rfl⟩ : ∃ k, n = k + 1 := ⟨n - 1, by omega⟩
    refine br_f (nI_ge (by omega) (by omega)) ⟨4, ?_⟩
    refine tx_anch14 (c := c) hS (by omega) 3 0 x 4 (by omega) (by omega) ?_ ?_
    · intro i hi
      rw [hx i hi, tx_aa]
      simp
    · intro x' hx'
      refine ih (c + 1) x' n (by omega) (by omega) ?_
      intro i hi
      rw [hx' i hi]
      by_cases e : i = c
      · subst e
        rw [← hS.2.2.2.2 i (by omega)]
        simp
      · have e2 : decide (i < c + 1) = decide (i < c) := by
          apply decide_eq_decide.mpr
          omega
        rw [e2, decide_eq_false e]
        simp
theorem tx_anch {post : Int32 → Prop} (hS : tx_S D sf au li aT aE) (h : ∀ x, (∀ c, c < tp_m D → bt x c = tp_an D c) → post x) : wpX_anchoredCertificates post ((nI (tp_m D)), aX, (tp_ie D), (tp_se D), sf, gf, gt, au, li, (tp_al D), (tp_ba D), (tp_po D), rv, he, aT, aE, pa, cl, nl, rl, pl) := by
  refine ⟨tp_m D + 1, ?_⟩
  refine tx_anch4 hS h (tp_m D) 0 0 _ (by omega) (by omega) ?_
  intro i hi
  rw [b_0]
  simp
end
theorem tp_F_len (D : tp_D) (u : Nat → Bool) (T : Nat) (w : Int32) : ∀ k l p, p ∈ tp_F D u T w k l → p.length = l.length + k + 1 := by
  intro k
  induction k with
  | zero =>
    intro l p h
    rw [tp_F] at h
    by_cases e : tp_en D u w l T = true
    · rw [if_pos e] at h
      rw [List.mem_singleton.mp h, List.length_cons]
    · rw [if_neg e] at h
      exact absurd h (List.not_mem_nil)
  | succ k ih =>
    intro l p h
    rw [tp_F] at h
    obtain ⟨c, _, hc, h⟩ := tp_fm_mem _ _ h
    by_cases e : tp_go D u w l c = true ∧ c ≠ T
    · rw [if_pos e] at h
      rw [ih (c :: l) p h, List.length_cons]
      omega
    · rw [if_neg e] at h
      exact absurd h (List.not_mem_nil)
section
variable {D : tp_D} {u : Nat → Bool} {T : Nat} {w : Int32} {aX : Int32} {sf gf gt au li rv he aT aE : Nat → Int32}
/-- what a node of k levels below it does: the state and moves of a node are W -/
def tx_Node (D : tp_D) (u : Nat → Bool) (T : Nat) (w : Int32) (aX : Int32) (sf gf gt au li rv he aT aE : Nat → Int32) (post : Int32 → SX → Prop) (la : Nat) (L : List (List Nat)) (M : Nat) (l : List Nat) (pa cl nl rl pl : Nat → Int32) (n mv : Nat) : Prop :=
  (∀ q t pa' cl' nl' rl' pl', L = q :: t → tp_st pa' q → post 1 ((nI (tp_m D)), aX, (tp_ie D), (tp_se D), sf, gf, gt, au, li, (tp_al D), (tp_ba D), (tp_po D), rv, he, aT, aE, pa', cl', nl', rl', pl')) → (L = [] → ∀ pa' cl' nl' rl' pl', (∀ i, i < l.length → pa' i = pa i) → (∀ i, i ≤ l.length → cl' i = cl i ∧ nl' i = nl i ∧ rl' i = rl i ∧ pl' i = pl i) → ∀ n' mv', n' + mv' = n + mv → mv' ≤ mv + M → wX_findPath_12 post (nI T) (nI la) n' (nI l.length + (-1)) (nI mv') (nI (tp_m D)) aX (tp_ie D) (tp_se D) sf gf gt au li (tp_al D) (tp_ba D) (tp_po D) rv he aT aE pa' cl' nl' rl' pl') → wX_findPath_12 post (nI T) (nI la) n (nI l.length) (nI mv) (nI (tp_m D)) aX (tp_ie D) (tp_se D) sf gf gt au li (tp_al D) (tp_ba D) (tp_po D) rv he aT aE pa cl nl rl pl
theorem tx_node0 {post : Int32 → SX → Prop} {la : Nat} (hS : tx_S D sf au li aT aE) (hA : ∀ c, c < tp_m D → bt aX c = tp_an D c) (hla : la ≤ 5) (hT : T < tp_m D) (hu : u T = true) {l : List Nat} {pa cl nl rl pl : Nat → Int32} {n mv : Nat} (hk : l.length = la) (hst : tp_st pa l) (hm : ∀ y, y ∈ l → y < tp_m D) (hTl : ¬ T ∈ l) (hLX : tp_LX D u T w cl nl rl pl l) (hb : mv + 1 ≤ 3999999) (hn : 4000000 ≤ n + mv) : tx_Node D u T w aX sf gf gt au li rv he aT aE post la (tp_F D u T w 0 l) 1 l pa cl nl rl pl n mv := by
  intro hf hr
  obtain ⟨n, rfl⟩ : ∃ k, n = k + 1 := ⟨n - 1, by omega⟩
  have h12 := hS.1
  have hlx := tp_LX_top l hLX
  have e1 : (nI l.length).toNatClampNeg = l.length := nI_clamp (by omega)
  rw [wX_findPath_12]
  dsimp only
  refine br_f (nI_pos (by omega)) (br_f (nI_ge (b := 4000000) (by omega) (by omega)) (br_t (by rw [hk]) ?_))
  refine tx_canEnd hS hA (by omega) hT hst hm hlx (fun g1 g2 g3 => ?_) (fun g => ?_)
  · have hen : tp_en D u w l T = true := tp_en_iff.mpr ⟨tp_lk_iff.mpr ⟨hu, hTl, g1, g2⟩, g3⟩
    rw [e1]
    refine br_f (by decide) ⟨vp_in_nI (by omega) (by omega), nm_e ?_⟩
    refine hf (T :: l) [] _ cl nl rl pl (by rw [tp_F, if_pos hen]) ⟨pk_us, ?_⟩
    exact tp_st_congr l (fun i hi => pk_un (by omega)) hst
  · have hen : ¬ tp_en D u w l T = true := by
      intro z
      have z1 := tp_en_iff.mp z
      have z2 := tp_lk_iff.mp z1.1
      exact g ⟨z2.2.2.1, z2.2.2.2, z1.2⟩
    refine br_t rfl (nm_e (nm_r (nI_1 mv) ?_))
    exact hr (by rw [tp_F, if_neg hen]) pa cl nl rl pl (fun i _ => rfl) (fun i _ => ⟨rfl, rfl, rfl, rfl⟩) n (mv + 1) (by omega) (by omega)
theorem tx_cand {post : Int32 → SX → Prop} {la k : Nat} (hS : tx_S D sf au li aT aE) (hA : ∀ c, c < tp_m D → bt aX c = tp_an D c) (hla : la ≤ 5) (hT : T < tp_m D) (hk5 : k < 5)
    (IH : ∀ (l : List Nat) (pa cl nl rl pl : Nat → Int32) (n mv : Nat), l.length + k = la → tp_st pa l → pa l.length = -1 → (∀ y, y ∈ l → y < tp_m D) → ¬ T ∈ l → tp_LX D u T w cl nl rl pl l → mv + tp_M k ≤ 3999999 → 4000000 ≤ n + mv → tx_Node D u T w aX sf gf gt au li rv he aT aE post la (tp_F D u T w k l) (tp_M k) l pa cl nl rl pl n mv) :
    ∀ (j c : Nat) (l : List Nat) (pa cl nl rl pl : Nat → Int32) (n mv : Nat), c + j = tp_m D → l.length + (k + 1) = la → tp_st pa l → pa l.length + 1 = nI c → (∀ y, y ∈ l → y < tp_m D) → ¬ T ∈ l → tp_LX D u T w cl nl rl pl l → mv + (j * (tp_M k + 1) + 1) ≤ 3999999 → 4000000 ≤ n + mv → tx_Node D u T w aX sf gf gt au li rv he aT aE post la (tp_fm (fun c => if tp_go D u w l c = true ∧ c ≠ T then tp_F D u T w k (c :: l) else []) j c) (j * (tp_M k + 1) + 1) l pa cl nl rl pl n mv := by
  have h12 := hS.1
  intro j
  induction j using Nat.strongRecOn with
  | _ j ihj =>
    intro c l pa cl nl rl pl n mv hcj hk hst hpa hm hTl hLX hb hn hf hr
    obtain ⟨n, rfl⟩ : ∃ k, n = k + 1 := ⟨n - 1, by omega⟩
    have hlx := tp_LX_top l hLX
    have e1 : (nI l.length).toNatClampNeg = l.length := nI_clamp (by omega)
    have e3 : (nI (l.length + 1)).toNatClampNeg = l.length + 1 := nI_clamp (by omega)
    rw [wX_findPath_12]
    dsimp only
    refine br_f (nI_pos (by omega)) (br_f (nI_ge (b := 4000000) (by omega) (by omega)) (br_f (fun z => ?_) ?_))
    · rw [nI_eq (by omega) (by omega)] at z
      omega
    refine tx_next (c := c) hS hA (by omega) hst hm hlx (by omega) hpa (fun d h1 h2 h3 h4 => ?_) (fun h0 => ?_)
    · have hfm : tp_fm (fun c => if tp_go D u w l c = true ∧ c ≠ T then tp_F D u T w k (c :: l) else []) j c = tp_F D u T w k (d :: l) ++ tp_fm (fun c => if tp_go D u w l c = true ∧ c ≠ T then tp_F D u T w k (c :: l) else []) (tp_m D - d - 1) (d + 1) := by
        have ej : j = (d - c) + ((tp_m D - d - 1) + 1) := by omega
        have ed : c + (d - c) = d := by omega
        rw [ej, tp_fm_skip _ (d - c) c (fun e g1 g2 => if_neg (h4 e g1 (by omega))), ed, tp_fm]
        rw [if_pos h3]
      rw [hfm] at hf hr
      have hne : ¬ nI d = -1 := by
        intro z
        have z2 : (nI d).toInt = -1 := by rw [z]; decide
        rw [nI_toInt (by omega)] at z2
        omega
      rw [e1]
      refine br_f hne ⟨vp_in_nI (by omega) (by omega), nm_e ?_⟩
      have hgo := tp_go_iff.mp h3.1
      refine tx_open (u := u) (T := T) (w := w) hS (by omega) h2 hlx ?_ ?_
      · rcases hgo.2.2 with q | q
        · exact Or.inl q
        · exact Or.inr ((tp_room0 D (by omega)).mpr q.1)
      refine nm_r (nI_1 l.length) ?_
      rw [e3]
      refine ⟨vp_in_nI (by omega) (by omega), nm_e (nm_r (nI_1 mv) ?_)⟩
      have hmul : j * (tp_M k + 1) = (tp_m D - d - 1) * (tp_M k + 1) + (d - c + 1) * (tp_M k + 1) := by
        rw [← Nat.add_mul]
        congr 1
        omega
      have hmul2 : (d - c + 1) * (tp_M k + 1) = (d - c) * (tp_M k + 1) + (tp_M k + 1) := by
        rw [Nat.add_mul, Nat.one_mul]
      have hp0 : ∀ i, i < l.length → upd (upd pa l.length (nI d)) (l.length + 1) (-1) i = pa i := by
        intro i hi
        rw [pk_un (by omega), pk_un (by omega)]
      have hp1 : upd (upd pa l.length (nI d)) (l.length + 1) (-1) l.length = nI d := by
        rw [pk_un (by omega), pk_us]
      have hl1 : (d :: l).length = l.length + 1 := List.length_cons
      have hIH := IH (d :: l) (upd (upd pa l.length (nI d)) (l.length + 1) (-1)) (upd cl (l.length + 1) (cl l.length &&& (((1 : Int32) <<< (nI d &&& 31)) ^^^ (-1)))) (upd nl (l.length + 1) ((nl l.length &&& tp_al D d) &&& (tp_ba D d ^^^ (-1)))) (upd rl (l.length + 1) (nI (tp_R D 6 (d :: l)))) (upd pl (l.length + 1) (pl l.length &&& tp_po D d)) n (mv + 1) (by omega) ⟨hp1, tp_st_congr l hp0 hst⟩ (by rw [hl1]; exact pk_us) ?_ ?_ (tx_open_LX (by omega) hLX (by omega)) (by omega) (by omega)
      · refine hIH ?_ ?_
        · intro q t pa' cl' nl' rl' pl' e g
          exact hf q _ pa' cl' nl' rl' pl' (by rw [e, List.cons_append]) g
        · intro e0 pa' cl' nl' rl' pl' g1 g2 n' mv' g3 g4
          rw [e0, List.nil_append] at hf hr
          have ep : nI (d :: l).length + (-1) = nI l.length := pk_m1 l.length
          rw [ep]
          refine ihj (tp_m D - d - 1) (by omega) (d + 1) l pa' cl' nl' rl' pl' n' mv' (by omega) hk ?_ ?_ hm hTl ?_ (by omega) (by omega) hf ?_
          · exact tp_st_congr l (fun i hi => (g1 i (by omega)).trans (hp0 i hi)) hst
          · rw [g1 l.length (by omega), hp1, nI_1]
          · refine tp_LX_congr l (fun i hi => ?_) hLX
            obtain ⟨k1, k2, k3, k4⟩ := g2 i (by omega)
            exact ⟨k1.trans (pk_un (by omega)), k2.trans (pk_un (by omega)), k3.trans (pk_un (by omega)), k4.trans (pk_un (by omega))⟩
          · intro e2 pa2 cl2 nl2 rl2 pl2 f1 f2 n2 mv2 f3 f4
            refine hr e2 pa2 cl2 nl2 rl2 pl2 ?_ ?_ n2 mv2 (by omega) (by omega)
            · intro i hi
              exact (f1 i hi).trans ((g1 i (by omega)).trans (hp0 i hi))
            · intro i hi
              obtain ⟨k1, k2, k3, k4⟩ := g2 i (by omega)
              obtain ⟨m1, m2, m3, m4⟩ := f2 i hi
              exact ⟨m1.trans (k1.trans (pk_un (by omega))), m2.trans (k2.trans (pk_un (by omega))), m3.trans (k3.trans (pk_un (by omega))), m4.trans (k4.trans (pk_un (by omega)))⟩
      · intro y hy
        rcases List.mem_cons.mp hy with hy | hy
        · rw [hy]; exact h2
        · exact hm y hy
      · intro hy
        rcases List.mem_cons.mp hy with hy | hy
        · exact h3.2 hy.symm
        · exact hTl hy
    · refine br_t rfl (nm_e (nm_r (nI_1 mv) ?_))
      refine hr ?_ pa cl nl rl pl (fun i _ => rfl) (fun i _ => ⟨rfl, rfl, rfl, rfl⟩) n (mv + 1) (by omega) (by omega)
      exact tp_fm_nil j c (fun d g1 g2 => if_neg (h0 d g1 (by omega)))
theorem tx_node {post : Int32 → SX → Prop} {la : Nat} (hS : tx_S D sf au li aT aE) (hA : ∀ c, c < tp_m D → bt aX c = tp_an D c) (hla : la ≤ 5) (hT : T < tp_m D) (hu : u T = true) : ∀ (k : Nat) (l : List Nat) (pa cl nl rl pl : Nat → Int32) (n mv : Nat), l.length + k = la → tp_st pa l → pa l.length = -1 → (∀ y, y ∈ l → y < tp_m D) → ¬ T ∈ l → tp_LX D u T w cl nl rl pl l → mv + tp_M k ≤ 3999999 → 4000000 ≤ n + mv → tx_Node D u T w aX sf gf gt au li rv he aT aE post la (tp_F D u T w k l) (tp_M k) l pa cl nl rl pl n mv := by
  intro k
  induction k with
  | zero =>
    intro l pa cl nl rl pl n mv hk hst hpa hm hTl hLX hb hn
    exact tx_node0 hS hA hla hT hu (by omega) hst hm hTl hLX hb hn
  | succ k ih =>
    intro l pa cl nl rl pl n mv hk hst hpa hm hTl hLX hb hn
    have h12 := hS.1
    have hM : tp_m D * (tp_M k + 1) ≤ 12 * (tp_M k + 1) := Nat.mul_le_mul_right _ h12
    have hM2 : tp_M (k + 1) = 12 * (tp_M k + 1) + 1 := rfl
    have h := tx_cand (w := w) (u := u) (post := post) hS hA hla hT (by omega) ih (tp_m D) 0 l pa cl nl rl pl n mv (by omega) hk hst (by rw [hpa]; exact (by decide : (-1 : Int32) + 1 = 0)) hm hTl hLX (by omega) hn
    intro hf hr
    refine h hf (fun e pa' cl' nl' rl' pl' g1 g2 n' mv' g3 g4 => hr e pa' cl' nl' rl' pl' g1 g2 n' mv' g3 (by omega))
theorem tx_find {post : Int32 → SX → Prop} {k : Nat} {pa cl nl rl pl : Nat → Int32} (hS : tx_S D sf au li aT aE) (hA : ∀ c, c < tp_m D → bt aX c = tp_an D c) (hk : k ≤ 5) (hT : T < tp_m D) (hu : u T = true) (hLX : tp_LX D u T w cl nl rl pl []) (hf : ∀ q t pa' cl' nl' rl' pl', tp_F D u T w k [] = q :: t → tp_st pa' q → post 1 ((nI (tp_m D)), aX, (tp_ie D), (tp_se D), sf, gf, gt, au, li, (tp_al D), (tp_ba D), (tp_po D), rv, he, aT, aE, pa', cl', nl', rl', pl')) (hr : tp_F D u T w k [] = [] → ∀ pa' cl' nl' rl' pl', tp_LX D u T w cl' nl' rl' pl' [] → post 0 ((nI (tp_m D)), aX, (tp_ie D), (tp_se D), sf, gf, gt, au, li, (tp_al D), (tp_ba D), (tp_po D), rv, he, aT, aE, pa', cl', nl', rl', pl')) : wpX_findPath post ((nI (tp_m D)), aX, (tp_ie D), (tp_se D), sf, gf, gt, au, li, (tp_al D), (tp_ba D), (tp_po D), rv, he, aT, aE, pa, cl, nl, rl, pl) (nI T) (nI k) := by
  have hM := tp_M_5 k hk
  unfold wpX_findPath
  refine nm_e ⟨4000000, ?_⟩
  have h := tx_node (w := w) (u := u) (post := post) (gf := gf) (gt := gt) (rv := rv) (he := he) hS hA hk hT hu k [] (upd pa 0 (-1)) cl nl rl pl 4000000 0 (by simp) True.intro pk_us (fun y hy => absurd hy (List.not_mem_nil)) (List.not_mem_nil) hLX (by omega) (by omega)
  refine h hf (fun e pa' cl' nl' rl' pl' g1 g2 n' mv' g3 g4 => ?_)
  obtain ⟨n, rfl⟩ : ∃ k, n' = k + 1 := ⟨n' - 1, by omega⟩
  refine br_t (by decide) (hr e pa' cl' nl' rl' pl' ?_)
  exact tp_LX_congr [] g2 hLX
end
