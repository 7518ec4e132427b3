/-! what changes the certificates and the anchors, related -/
section
variable {m : Nat} {ie se sf au li al ba po rv aT aE is su ik sk te re an : Nat → Int32}
theorem tr_set0 {c x : Nat} (hx : x ≤ 1) (hT : ∀ d, d < m → tr_T au li al ba po te d) : ∀ d, d < m → tr_T (upd au c (nI x)) li al ba po (upd te (5 * c) (nI x)) d := by
  have hx2 : nI x = 0 ∨ nI x = 1 := by
    by_cases z : x = 0
    · exact Or.inl (by rw [z]; rfl)
    · have z2 : x = 1 := by omega
      exact Or.inr (by rw [z2]; rfl)
  intro d hd
  obtain ⟨t0, a1, t1, a2, t2, t3, t4⟩ := hT d hd
  by_cases e : d = c
  · subst e
    exact ⟨pk_us.trans pk_us.symm, (by rw [pk_us]; exact hx2), (pk_un (by omega)).trans t1, a2, (pk_un (by omega)).trans t2, (pk_un (by omega)).trans t3, (pk_un (by omega)).trans t4⟩
  · exact ⟨(pk_un (by omega)).trans (t0.trans (pk_un e).symm), (by rw [pk_un e]; exact a1), (pk_un (by omega)).trans t1, a2, (pk_un (by omega)).trans t2, (pk_un (by omega)).trans t3, (pk_un (by omega)).trans t4⟩
theorem tr_set1 {c x : Nat} (hx : x ≤ 4) (hT : ∀ d, d < m → tr_T au li al ba po te d) : ∀ d, d < m → tr_T au (upd li c (nI x)) al ba po (upd te (5 * c + 1) (nI x)) d := by
  intro d hd
  obtain ⟨t0, a1, t1, a2, t2, t3, t4⟩ := hT d hd
  by_cases e : d = c
  · subst e
    exact ⟨(pk_un (by omega)).trans t0, a1, pk_us.trans pk_us.symm, ⟨x, hx, pk_us⟩, (pk_un (by omega)).trans t2, (pk_un (by omega)).trans t3, (pk_un (by omega)).trans t4⟩
  · exact ⟨(pk_un (by omega)).trans t0, a1, (pk_un (by omega)).trans (t1.trans (pk_un e).symm), (by rw [pk_un e]; exact a2), (pk_un (by omega)).trans t2, (pk_un (by omega)).trans t3, (pk_un (by omega)).trans t4⟩
theorem tr_set2 {c x : Nat} (hx : x ≤ 255) (hT : ∀ d, d < m → tr_T au li al ba po te d) : ∀ d, d < m → tr_T au li (upd al c (nI x)) ba po (upd te (5 * c + 2) (nI x)) d := by
  intro d hd
  obtain ⟨t0, a1, t1, a2, t2, t3, t4⟩ := hT d hd
  by_cases e : d = c
  · subst e
    exact ⟨(pk_un (by omega)).trans t0, a1, (pk_un (by omega)).trans t1, a2, pk_us.trans pk_us.symm, (pk_un (by omega)).trans t3, (pk_un (by omega)).trans t4⟩
  · exact ⟨(pk_un (by omega)).trans t0, a1, (pk_un (by omega)).trans t1, a2, (pk_un (by omega)).trans (t2.trans (pk_un e).symm), (pk_un (by omega)).trans t3, (pk_un (by omega)).trans t4⟩
theorem tr_set3 {c x : Nat} (hx : x ≤ 255) (hT : ∀ d, d < m → tr_T au li al ba po te d) : ∀ d, d < m → tr_T au li al (upd ba c (nI x)) po (upd te (5 * c + 3) (nI x)) d := by
  intro d hd
  obtain ⟨t0, a1, t1, a2, t2, t3, t4⟩ := hT d hd
  by_cases e : d = c
  · subst e
    exact ⟨(pk_un (by omega)).trans t0, a1, (pk_un (by omega)).trans t1, a2, (pk_un (by omega)).trans t2, pk_us.trans pk_us.symm, (pk_un (by omega)).trans t4⟩
  · exact ⟨(pk_un (by omega)).trans t0, a1, (pk_un (by omega)).trans t1, a2, (pk_un (by omega)).trans t2, (pk_un (by omega)).trans (t3.trans (pk_un e).symm), (pk_un (by omega)).trans t4⟩
theorem tr_set4 {c x : Nat} (hx : x ≤ 15) (hT : ∀ d, d < m → tr_T au li al ba po te d) : ∀ d, d < m → tr_T au li al ba (upd po c (nI x)) (upd te (5 * c + 4) (nI x)) d := by
  intro d hd
  obtain ⟨t0, a1, t1, a2, t2, t3, t4⟩ := hT d hd
  by_cases e : d = c
  · subst e
    exact ⟨(pk_un (by omega)).trans t0, a1, (pk_un (by omega)).trans t1, a2, (pk_un (by omega)).trans t2, (pk_un (by omega)).trans t3, pk_us.trans pk_us.symm⟩
  · exact ⟨(pk_un (by omega)).trans t0, a1, (pk_un (by omega)).trans t1, a2, (pk_un (by omega)).trans t2, (pk_un (by omega)).trans t3, (pk_un (by omega)).trans (t4.trans (pk_un e).symm)⟩
theorem tr_makeE {a b : Nat} {z : Int32} (ha : a < 64) (hb : b < 100) (hz : z = 0 ↔ ¬ a / 8 = a % 8) (hE : ∀ c, c < m → tr_E ie se sf is su ik sk c) : ∀ c, c < m + 1 → tr_E (upd ie m (nI (10 * (a / 8) + b / 10))) (upd se m (nI (10 * (a % 8) + b % 10))) (upd sf m z) (upd is m (nI (a / 8))) (upd su m (nI (a % 8))) (upd ik m (nI (b / 10))) (upd sk m (nI (b % 10))) c := by
  intro c hc
  by_cases e : c = m
  · subst e
    exact ⟨a / 8, a % 8, b / 10, b % 10, by omega, by omega, by omega, by omega, pk_us, pk_us, pk_us, pk_us, pk_us, pk_us, by rw [pk_us]; exact hz⟩
  · have h := hE c (by omega)
    unfold tr_E at h ⊢
    rw [pk_un e, pk_un e, pk_un e, pk_un e, pk_un e, pk_un e, pk_un e]
    exact h
theorem tr_makeT (hT : ∀ c, c < m → tr_T au li al ba po te c) : ∀ c, c < m + 1 → tr_T (upd au m 1) (upd li m 4) (upd al m 255) (upd ba m 0) (upd po m 15) (upd (upd (upd (upd (upd te (5 * m) 1) (5 * m + 1) 4) (5 * m + 2) 255) (5 * m + 3) 0) (5 * m + 4) 15) c := by
  intro c hc
  have hu : ∀ x, x < 5 * m → upd (upd (upd (upd (upd te (5 * m) 1) (5 * m + 1) 4) (5 * m + 2) 255) (5 * m + 3) 0) (5 * m + 4) 15 x = te x := by
    intro x hx
    rw [pk_un (by omega), pk_un (by omega), pk_un (by omega), pk_un (by omega), pk_un (by omega)]
  by_cases e : c = m
  · subst e
    refine ⟨?_, ?_, ?_, ⟨4, by omega, pk_us⟩, ?_, ?_, ?_⟩
    · rw [pk_un (by omega), pk_un (by omega), pk_un (by omega), pk_un (by omega), pk_us, pk_us]
    · rw [pk_us]; exact Or.inr rfl
    · rw [pk_un (by omega), pk_un (by omega), pk_un (by omega), pk_us, pk_us]
    · rw [pk_un (by omega), pk_un (by omega), pk_us, pk_us]
    · rw [pk_un (by omega), pk_us, pk_us]
    · rw [pk_us, pk_us]
  · have h := hT c (by omega)
    unfold tr_T at h ⊢
    rw [hu _ (by omega), hu _ (by omega), hu _ (by omega), hu _ (by omega), hu _ (by omega), pk_un e, pk_un e, pk_un e, pk_un e, pk_un e]
    exact h
theorem tr_makeV (hV : ∀ c, c < m → tr_V rv re c) : ∀ c, c < m + 1 → tr_V (upd rv m 101) (upd re m 1000) c := by
  intro c hc
  by_cases e : c = m
  · subst e
    exact Or.inl ⟨pk_us, pk_us⟩
  · have h := hV c (by omega)
    unfold tr_V at h ⊢
    rw [pk_un e, pk_un e]
    exact h
theorem tr_revV {d t : Nat} (ht : t ≤ 100) (hV : ∀ c, c < m → tr_V rv re c) : ∀ c, c < m → tr_V (upd rv d (nI t)) (upd re d (nI t)) c := by
  intro c hc
  by_cases e : c = d
  · subst e
    exact Or.inr ⟨t, ht, pk_us, pk_us⟩
  · have h := hV c (by omega)
    unfold tr_V at h ⊢
    rw [pk_un e, pk_un e]
    exact h
theorem tr_ancA {d e : Nat} (he : e < 80) (hA : ∀ a, a < 3 → tr_A aT aE an a) : ∀ a, a < 3 → tr_A (upd aT d 1) (upd aE d (nI e)) (upd an d (nI e)) a := by
  intro a ha
  by_cases z : a = d
  · subst z
    exact Or.inr ⟨by rw [pk_us]; decide, e, he, pk_us, pk_us⟩
  · have h := hA a ha
    unfold tr_A at h ⊢
    rw [pk_un z, pk_un z, pk_un z]
    exact h
theorem tr_disA {d : Nat} (hA : ∀ a, a < 3 → tr_A aT aE an a) : ∀ a, a < 3 → tr_A (upd aT d 0) aE (upd an d (-1)) a := by
  intro a ha
  by_cases z : a = d
  · subst z
    exact Or.inl ⟨pk_us, pk_us⟩
  · have h := hA a ha
    unfold tr_A at h ⊢
    rw [pk_un z, pk_un z]
    exact h
end
section
variable {is su ik sk fr tt te re hY le st fo co ls ne na pY ro : Nat → Int32}
theorem ty_init {post : SY → Prop} (H : ∀ an, (∀ a, a < 3 → an a = -1) → post (0, 0, is, su, ik, sk, fr, tt, te, re, hY, an, le, st, fo, co, ls, ne, na, pY, ro)) : ∀ (j i : Nat) (an : Nat → Int32) (n : Nat), i + j = 3 → j < n → (∀ a, a < i → an a = -1) → wY_init_157 post 0 0 n (nI i) is su ik sk fr tt te re hY an le st fo co ls ne na pY ro := by
  intro j
  induction j with
  | zero =>
    intro i an n hj hn h
    obtain ⟨n, rfl⟩ : ∃ k, n = k + 1 := ⟨n - 1, by omega⟩
    exact br_t (nI_le (a := 3) (by omega) (by omega)) (H an (fun a ha => h a (by omega)))
  | succ j ih =>
    intro i an n hj hn h
    obtain ⟨n, rfl⟩ : ∃ k, n = k + 1 := ⟨n - 1, by omega⟩
    have e : (nI i).toNatClampNeg = i := nI_clamp (by omega)
    rw [wY_init_157]
    dsimp only
    rw [e]
    refine br_f (nI_ge (b := 3) (by omega) (by omega)) ⟨vp_in_nI (by omega) (by omega), nm_e (nm_r (nI_1 i) (ih (i + 1) _ n (by omega) (by omega) ?_))⟩
    intro a ha
    by_cases z : a = i
    · rw [z]; exact pk_us
    · rw [pk_un z]
      exact h a (by omega)
end
