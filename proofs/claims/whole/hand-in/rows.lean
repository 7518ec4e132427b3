section
theorem pk_us {f : Nat → Int32} {k : Nat} {x : Int32} : upd f k x k = x := if_pos rfl
theorem pk_un {f : Nat → Int32} {k j : Nat} {x : Int32} (h : j ≠ k) : upd f k x j = f j := if_neg h
theorem pk_sub {a b : Nat} (h : b ≤ a) : nI a - nI b = nI (a - b) := by
  obtain ⟨c, rfl⟩ : ∃ c, a = c + b := ⟨a - b, by omega⟩
  rw [← nI_add, Int32.add_sub_cancel, Nat.add_sub_cancel]
theorem pk_m1 (n : Nat) : nI (n + 1) + (-1) = nI n := by
  rw [← nI_1, Int32.add_assoc, show (1 : Int32) + (-1) = 0 from rfl, Int32.add_zero]
theorem pk_mul (a b : Nat) : nI a * nI b = nI (a * b) := (Int32.ofNat_mul a b).symm
theorem pk_div {a d : Nat} (ha : a < 2 ^ 31) (h0 : 0 < d) (hd : d < 2 ^ 31) : nI a / nI d = nI (a / d) := by
  apply Int32.toInt_inj.mp
  rw [lg_idiv_nonneg (by rw [nI_toInt ha]; omega) (by rw [nI_toInt hd]; omega), nI_toInt ha, nI_toInt hd, nI_toInt (Nat.lt_of_le_of_lt (Nat.div_le_self a d) ha)]
  first | rfl | exact (Int.natCast_ediv _ _).symm
theorem pk_rem {a d : Nat} (ha : a < 2 ^ 31) (h0 : 0 < d) (hd : d < 2 ^ 31) : nI a - nI a / nI d * nI d = nI (a % d) := by
  rw [pk_div ha h0 hd, pk_mul, pk_sub (Nat.div_mul_le_self a d)]
  exact congrArg nI (by have := Nat.div_add_mod' a d; omega)
theorem pk_sub_toInt {a b : Nat} (ha : a < 2 ^ 30) (hb : b < 2 ^ 30) : (nI a - nI b).toInt = (a : Int) - b := by
  rw [Int32.toInt_sub, nI_toInt (by omega), nI_toInt (by omega)]
  exact Int.bmod_eq_of_le (by omega) (by omega)
theorem pk_sneg {a b : Nat} (hb : b < 2 ^ 30) (h : a < b) : nI a - nI b < 0 := by
  rw [Int32.lt_iff_toInt_lt, pk_sub_toInt (by omega) hb, show (0 : Int32).toInt = 0 from by decide]
  omega
theorem pk_ix (x : Int32) {n : Nat} (hn : n < 2 ^ 31) : x < 0 ∨ nI n ≤ x ∨ ∃ j : Nat, j < n ∧ x = nI j := by
  by_cases h : x < 0
  · exact Or.inl h
  · obtain ⟨j, hj, rfl⟩ := nI_of h
    by_cases h2 : j < n
    · exact Or.inr (Or.inr ⟨j, h2, rfl⟩)
    · exact Or.inr (Or.inl (nI_le (by omega) hj))
theorem pk_le {x y : Int32} {A B : Prop} (a b : Nat) (f : a ≤ b → A) (g : b < a → B) (hx : x = nI a := by rfl) (hy : y = nI b := by rfl) (ha : a < 2 ^ 31 := by omega) (hb : b < 2 ^ 31 := by omega) : (x ≤ y → A) ∧ (¬ x ≤ y → B) := by
  subst hx hy
  rw [nI_leI ha hb]
  exact ⟨f, fun z => g (by omega)⟩
theorem pk_lt {x y : Int32} {A B : Prop} (a b : Nat) (f : a < b → A) (g : b ≤ a → B) (hx : x = nI a := by rfl) (hy : y = nI b := by rfl) (ha : a < 2 ^ 31 := by omega) (hb : b < 2 ^ 31 := by omega) : (x < y → A) ∧ (¬ x < y → B) := by
  subst hx hy
  rw [nI_ltI ha hb]
  exact ⟨f, fun z => g (by omega)⟩
theorem pk_eq {x y : Int32} {A B : Prop} (a b : Nat) (f : a = b → A) (g : a ≠ b → B) (hx : x = nI a := by rfl) (hy : y = nI b := by rfl) (ha : a < 2 ^ 31 := by omega) (hb : b < 2 ^ 31 := by omega) : (x = y → A) ∧ (¬ x = y → B) := by
  subst hx hy
  rw [nI_eq ha hb]
  exact ⟨f, g⟩
theorem pk_in {x : Int32} (n N : Nat) (h : n < N) (hx : x = nI n := by rfl) (hN : N < 2 ^ 31 := by omega) : vp_in x N := by
  subst hx
  exact vp_in_nI h hN
theorem pk_cl {x : Int32} (n : Nat) (hx : x = nI n := by rfl) (h : n < 2 ^ 31 := by omega) : x.toNatClampNeg = n := by
  subst hx
  exact nI_clamp h
theorem pk_tn {n : Nat} (h : n < 2 ^ 32) : (nI n).toBitVec.toNat = n := Nat.mod_eq_of_lt h
theorem pk_loop {σ : Type} (W : Nat → Nat → σ → Prop) (I : Nat → σ → Prop) (e i0 : Nat) (s : σ) (hi : i0 ≤ e) (h0 : I i0 s) (hx : ∀ n s, I e s → W (n + 1) e s)
    (hs : ∀ n i s, i < e → I i s → (∀ s', I (i + 1) s' → W n (i + 1) s') → W (n + 1) i s) : ∃ n, W n i0 s :=
  ⟨e + 1, loop_i W I e hx hs (e + 1) i0 s hi (by omega) h0⟩
def bt (x : Int32) (i : Nat) : Bool := x.toBitVec.getLsbD i
theorem b_ext {x y : Int32} (h : ∀ i, i < 32 → bt x i = bt y i) : x = y := Int32.toBitVec_inj.mp (BitVec.eq_of_getLsbD_eq (fun i hi => h i hi))
theorem b_or (x y : Int32) (i : Nat) : bt (x ||| y) i = (bt x i || bt y i) := by unfold bt; rw [Int32.toBitVec_or, BitVec.getLsbD_or]
theorem b_and (x y : Int32) (i : Nat) : bt (x &&& y) i = (bt x i && bt y i) := by unfold bt; rw [Int32.toBitVec_and, BitVec.getLsbD_and]
theorem b_xor (x y : Int32) (i : Nat) : bt (x ^^^ y) i = (bt x i ^^ bt y i) := by unfold bt; rw [Int32.toBitVec_xor, BitVec.getLsbD_xor]
theorem b_big {x : Int32} {i : Nat} (h : 32 ≤ i) : bt x i = false := BitVec.getLsbD_of_ge _ _ h
theorem b_m1 : ∀ i, i < 32 → bt (-1) i = true := by decide +kernel
theorem b_0 (i : Nat) : bt 0 i = false := BitVec.getLsbD_zero
theorem s_l : ∀ n, n < 32 → ((nI n &&& 31).toBitVec.smod 32).toNat = n := by decide +kernel
theorem b_shl (n : Nat) (hn : n < 32) (x : Int32) {i : Nat} (hi : i < 32) : bt (x <<< (nI n &&& 31)) i = (decide (n ≤ i) && bt x (i - n)) := by
  unfold bt
  rw [Int32.toBitVec_shiftLeft]
  show (x.toBitVec <<< ((nI n &&& 31).toBitVec.smod 32).toNat).getLsbD i = _
  rw [s_l n hn, BitVec.getLsbD_shiftLeft]
  rcases Nat.lt_or_ge i n with h | h
  · simp [h, Nat.not_le.mpr h]
  · simp [hi, h, Nat.not_lt.mpr h]
theorem b_sshr (n : Nat) (hn : n < 32) (x : Int32) {i : Nat} (hi : i < 32) : bt (x >>> (nI n &&& 31)) i = if n + i < 32 then bt x (n + i) else bt x 31 := by
  unfold bt
  rw [Int32.toBitVec_shiftRight]
  show (x.toBitVec.sshiftRight ((nI n &&& 31).toBitVec.smod 32).toNat).getLsbD i = _
  rw [s_l n hn, BitVec.getLsbD_sshiftRight, BitVec.msb_eq_getLsbD_last]
  simp [hi]
theorem tb_1 : ∀ i, i < 32 → bt 1 i = decide (i = 0) := by decide +kernel
theorem tb_15 : ∀ i, i < 32 → bt 15 i = decide (i < 4) := by decide +kernel
theorem tb_one {n i : Nat} (hn : n < 32) (hi : i < 32) : bt ((1 : Int32) <<< (nI n &&& 31)) i = decide (i = n) := by
  rw [b_shl n hn 1 hi, tb_1 (i - n) (by omega)]
  by_cases h : i = n
  · subst h; simp
  · by_cases h2 : n ≤ i
    · have h3 : ¬ i - n = 0 := by omega
      simp [h, h2, h3]
    · simp [h, h2]
theorem tb_low (y : Int32) : (y &&& 1) = 1 ↔ bt y 0 = true := by
  constructor
  · intro h
    have h2 : bt (y &&& 1) 0 = bt 1 0 := by rw [h]
    rw [b_and, tb_1 0 (by omega)] at h2
    simpa using h2
  · intro h
    apply b_ext
    intro i hi
    rw [b_and, tb_1 i hi]
    by_cases h0 : i = 0
    · subst h0; simp [h]
    · simp [h0]
theorem tb_low0 (y : Int32) : (y &&& 1) = 0 ↔ bt y 0 = false := by
  constructor
  · intro h
    have h2 : bt (y &&& 1) 0 = bt 0 0 := by rw [h]
    rw [b_and, tb_1 0 (by omega), b_0] at h2
    simpa using h2
  · intro h
    apply b_ext
    intro i hi
    rw [b_and, tb_1 i hi, b_0]
    by_cases h0 : i = 0
    · subst h0; simp [h]
    · simp [h0]
theorem tb_sh (x : Int32) {n : Nat} (hn : n < 32) : bt (x >>> (nI n &&& 31)) 0 = bt x n := by
  rw [b_sshr n hn x (by omega), if_pos (by omega), Nat.add_zero]
theorem tb_has (x : Int32) {n : Nat} (hn : n < 32) : ((x >>> (nI n &&& 31)) &&& 1) = 1 ↔ bt x n = true := by rw [tb_low, tb_sh x hn]
theorem tb_has0 (x : Int32) {n : Nat} (hn : n < 32) : ((x >>> (nI n &&& 31)) &&& 1) = 0 ↔ bt x n = false := by rw [tb_low0, tb_sh x hn]
theorem tb_not (x : Int32) {i : Nat} (hi : i < 32) : bt (x ^^^ (-1)) i = !bt x i := by rw [b_xor, b_m1 i hi]; simp
theorem tb_clr (x : Int32) {n i : Nat} (hn : n < 32) (hi : i < 32) : bt (x &&& (((1 : Int32) <<< (nI n &&& 31)) ^^^ (-1))) i = (bt x i && !decide (i = n)) := by
  rw [b_and, tb_not _ hi, tb_one hn hi]
theorem tb_set (x : Int32) {n i : Nat} (hn : n < 32) (hi : i < 32) : bt (x ||| ((1 : Int32) <<< (nI n &&& 31))) i = (bt x i || decide (i = n)) := by
  rw [b_or, tb_one hn hi]
theorem tb_w (x : Int32) {n : Nat} (hn : n < 32) : (((1 : Int32) <<< (nI n &&& 31)) &&& x) = 0 ↔ bt x n = false := by
  constructor
  · intro h
    have h2 : bt (((1 : Int32) <<< (nI n &&& 31)) &&& x) n = bt 0 n := by rw [h]
    rw [b_and, tb_one hn hn, b_0] at h2
    simpa using h2
  · intro h
    apply b_ext
    intro i hi
    rw [b_and, tb_one hn hi, b_0]
    by_cases h0 : i = n
    · subst h0; simp [h]
    · simp [h0]
theorem tb_w15 : ∀ n, n < 4 → (((1 : Int32) <<< (nI n &&& 31)) &&& 15) = ((1 : Int32) <<< (nI n &&& 31)) := by decide +kernel
theorem tb_lit {n : Nat} (h : n < 2 ^ 31) (x : Int32) (e : x = nI n) : x.toNatClampNeg = n := by rw [e, nI_clamp h]
end
section
/-! the pure picture: twelve certificates' data D, and all paths in the order of a depth-first search -/
abbrev tp_D : Type := Nat × (Nat → Int32) × (Nat → Int32) × (Nat → Int32) × (Nat → Int32) × (Nat → Int32) × (Nat → Bool) × (Nat → Bool) × (Nat → Bool) × (Nat → Nat)
def tp_m (D : tp_D) : Nat := D.1
def tp_ie (D : tp_D) : Nat → Int32 := D.2.1
def tp_se (D : tp_D) : Nat → Int32 := D.2.2.1
def tp_po (D : tp_D) : Nat → Int32 := D.2.2.2.1
def tp_al (D : tp_D) : Nat → Int32 := D.2.2.2.2.1
def tp_ba (D : tp_D) : Nat → Int32 := D.2.2.2.2.2.1
def tp_au (D : tp_D) : Nat → Bool := D.2.2.2.2.2.2.1
def tp_sf (D : tp_D) : Nat → Bool := D.2.2.2.2.2.2.2.1
def tp_an (D : tp_D) : Nat → Bool := D.2.2.2.2.2.2.2.2.1
def tp_lm (D : tp_D) : Nat → Nat := D.2.2.2.2.2.2.2.2.2
/-! the beginning of a path is a list with its last certificate first -/
def tp_N (D : tp_D) : List Nat → Int32
  | [] => 255
  | c :: l => (tp_N D l &&& tp_al D c) &&& (tp_ba D c ^^^ (-1))
def tp_P (D : tp_D) (w : Int32) : List Nat → Int32
  | [] => w
  | c :: l => tp_P D w l &&& tp_po D c
def tp_cl (a b : Nat) : Nat := if a < 4 ∧ a < b then a else b
def tp_R (D : tp_D) (r : Nat) : List Nat → Nat
  | [] => r
  | c :: l => tp_cl (tp_lm D c) (if tp_sf D c = true then tp_R D r l else tp_R D r l - 1)
def tp_ns (D : tp_D) : List Nat → Nat
  | [] => 0
  | c :: l => if tp_sf D c = true then tp_ns D l else tp_ns D l + 1
def tp_fo (D : tp_D) (l : List Nat) (c : Nat) : Bool := match l with
  | [] => tp_an D c
  | b :: _ => decide (tp_se D b = tp_ie D c)
def tp_nm (D : tp_D) (l : List Nat) (c : Nat) : Bool := decide (((tp_N D l >>> ((tp_se D c / 10) &&& 31)) &&& 1) = 1)
def tp_lk (D : tp_D) (u : Nat → Bool) (w : Int32) (l : List Nat) (c : Nat) : Bool := u c && (!decide (c ∈ l) && (tp_fo D l c && !decide (tp_P D w l &&& tp_po D c = 0)))
def tp_go (D : tp_D) (u : Nat → Bool) (w : Int32) (l : List Nat) (c : Nat) : Bool := tp_lk D u w l c && (tp_au D c && (tp_sf D c || (decide (0 < tp_R D 100 l) && tp_nm D l c)))
def tp_en (D : tp_D) (u : Nat → Bool) (w : Int32) (l : List Nat) (c : Nat) : Bool := tp_lk D u w l c && tp_nm D l c
theorem tp_lk_iff {D : tp_D} {u : Nat → Bool} {w : Int32} {l : List Nat} {c : Nat} : tp_lk D u w l c = true ↔ u c = true ∧ ¬ c ∈ l ∧ tp_fo D l c = true ∧ ¬ tp_P D w l &&& tp_po D c = 0 := by
  unfold tp_lk
  simp only [Bool.and_eq_true, Bool.not_eq_true', decide_eq_false_iff_not]
theorem tp_go_iff {D : tp_D} {u : Nat → Bool} {w : Int32} {l : List Nat} {c : Nat} : tp_go D u w l c = true ↔ tp_lk D u w l c = true ∧ tp_au D c = true ∧ (tp_sf D c = true ∨ (0 < tp_R D 100 l ∧ tp_nm D l c = true)) := by
  unfold tp_go
  simp only [Bool.and_eq_true, Bool.or_eq_true, decide_eq_true_eq]
theorem tp_en_iff {D : tp_D} {u : Nat → Bool} {w : Int32} {l : List Nat} {c : Nat} : tp_en D u w l c = true ↔ tp_lk D u w l c = true ∧ tp_nm D l c = true := by
  unfold tp_en
  simp only [Bool.and_eq_true]
/-! the room: counted from 6 or from 100 -/
theorem tp_ns_le (D : tp_D) : ∀ l, tp_ns D l ≤ l.length := by
  intro l
  induction l with
  | nil => exact Nat.le_refl _
  | cons c l ih =>
    rw [tp_ns, List.length_cons]
    split <;> omega
theorem tp_room1 {a b n q : Nat} (h1 : a ≤ b) (h2 : a ≤ 6 - n) (h3 : a = b ∨ a = 6 - n) : tp_cl q a ≤ tp_cl q b ∧ tp_cl q a ≤ 6 - n ∧ (tp_cl q a = tp_cl q b ∨ tp_cl q a = 6 - n) := by
  unfold tp_cl
  by_cases x : q < 4 ∧ q < a
  · have y : q < 4 ∧ q < b := by omega
    rw [if_pos x, if_pos y]
    omega
  · rw [if_neg x]
    by_cases y : q < 4 ∧ q < b
    · rw [if_pos y]
      omega
    · rw [if_neg y]
      omega
theorem tp_room (D : tp_D) : ∀ l, tp_R D 6 l ≤ tp_R D 100 l ∧ tp_R D 6 l ≤ 6 - tp_ns D l ∧ (tp_R D 6 l = tp_R D 100 l ∨ tp_R D 6 l = 6 - tp_ns D l) := by
  intro l
  induction l with
  | nil => exact ⟨show 6 ≤ 100 by decide, show 6 ≤ 6 - 0 by decide, Or.inr rfl⟩
  | cons c l ih =>
    obtain ⟨h1, h2, h3⟩ := ih
    rw [tp_R, tp_R, tp_ns]
    by_cases hs : tp_sf D c = true
    · simp only [if_pos hs]
      exact tp_room1 h1 h2 h3
    · simp only [if_neg hs]
      exact tp_room1 (by omega) (by omega) (by omega)
theorem tp_room0 (D : tp_D) {l : List Nat} (h : l.length ≤ 5) : 0 < tp_R D 6 l ↔ 0 < tp_R D 100 l := by
  have h1 := tp_room D l
  have h2 := tp_ns_le D l
  omega
theorem tp_R_le (D : tp_D) (r : Nat) : ∀ l, tp_R D r l ≤ r := by
  intro l
  induction l with
  | nil => exact Nat.le_refl _
  | cons c l ih =>
    rw [tp_R, tp_cl]
    by_cases hs : tp_sf D c = true
    · rw [if_pos hs]
      split <;> omega
    · rw [if_neg hs]
      split <;> omega
/-! a union over an interval, in order -/
def tp_fm (f : Nat → List (List Nat)) : Nat → Nat → List (List Nat)
  | 0, _ => []
  | n + 1, s => f s ++ tp_fm f n (s + 1)
theorem tp_fm_filter (h : List Nat → Bool) (f : Nat → List (List Nat)) : ∀ n s, (tp_fm f n s).filter h = tp_fm (fun c => (f c).filter h) n s := by
  intro n
  induction n with
  | zero => intro s; rfl
  | succ n ih => intro s; rw [tp_fm, tp_fm, List.filter_append, ih]
theorem tp_fm_congr {f g : Nat → List (List Nat)} : ∀ n s, (∀ c, s ≤ c → c < s + n → f c = g c) → tp_fm f n s = tp_fm g n s := by
  intro n
  induction n with
  | zero => intro s _; rfl
  | succ n ih =>
    intro s h
    rw [tp_fm, tp_fm, h s (Nat.le_refl _) (by omega), ih (s + 1) (fun c h1 h2 => h c (by omega) (by omega))]
theorem tp_fm_mem {f : Nat → List (List Nat)} {p : List Nat} : ∀ n s, p ∈ tp_fm f n s → ∃ c, s ≤ c ∧ c < s + n ∧ p ∈ f c := by
  intro n
  induction n with
  | zero => intro s h; exact absurd h (List.not_mem_nil)
  | succ n ih =>
    intro s h
    rw [tp_fm] at h
    rcases List.mem_append.mp h with h | h
    · exact ⟨s, Nat.le_refl _, by omega, h⟩
    · obtain ⟨c, h1, h2, h3⟩ := ih (s + 1) h
      exact ⟨c, by omega, by omega, h3⟩
theorem tp_fm_nil {f : Nat → List (List Nat)} : ∀ n s, (∀ c, s ≤ c → c < s + n → f c = []) → tp_fm f n s = [] := by
  intro n
  induction n with
  | zero => intro s _; rfl
  | succ n ih =>
    intro s h
    rw [tp_fm]
    exact List.append_eq_nil_iff.mpr ⟨h s (Nat.le_refl _) (by omega), ih (s + 1) (fun c h1 h2 => h c (by omega) (by omega))⟩
theorem tp_fm_pick {T : Nat} {X : List (List Nat)} : ∀ n s, s ≤ T → T < s + n → tp_fm (fun c => if c = T then X else []) n s = X := by
  intro n
  induction n with
  | zero => intro s h1 h2; omega
  | succ n ih =>
    intro s h1 h2
    rw [tp_fm]
    by_cases h : s = T
    · have hz : tp_fm (fun c => if c = T then X else []) n (s + 1) = [] := tp_fm_nil n (s + 1) (fun c h3 h4 => if_neg (by omega))
      rw [hz, List.append_nil]
      exact if_pos h
    · rw [ih (s + 1) (by omega) (by omega)]
      exact (congrArg (fun z => z ++ X) (if_neg h)).trans (List.nil_append X)
/-! all paths (E: the order of the reference), and those of one target and length (F: the order of the component) -/
def tp_E (D : tp_D) (u : Nat → Bool) : Nat → List Nat → List (List Nat)
  | 0, _ => []
  | k + 1, l => tp_fm (fun c => (if tp_en D u 15 l c = true then [c :: l] else []) ++ (if tp_go D u 15 l c = true then tp_E D u k (c :: l) else [])) (tp_m D) 0
def tp_F (D : tp_D) (u : Nat → Bool) (T : Nat) (w : Int32) : Nat → List Nat → List (List Nat)
  | 0, l => if tp_en D u w l T = true then [T :: l] else []
  | k + 1, l => tp_fm (fun c => if tp_go D u w l c = true ∧ c ≠ T then tp_F D u T w k (c :: l) else []) (tp_m D) 0
theorem tp_P_w (D : tp_D) {w : Int32} (hw : w &&& 15 = w) : ∀ l, tp_P D w l = w &&& tp_P D 15 l := by
  intro l
  induction l with
  | nil => exact hw.symm
  | cons c l ih => rw [tp_P, tp_P, ih, Int32.and_assoc]
theorem tp_P_0 (D : tp_D) (w : Int32) (c : Nat) {l : List Nat} (h : tp_P D w l = 0) : tp_P D w (c :: l) = 0 := by
  rw [tp_P, h, Int32.zero_and]
theorem tp_P_15 (D : tp_D) {w : Int32} (hw : w &&& 15 = w) {l : List Nat} (h : ¬ tp_P D w l = 0) : ¬ tp_P D 15 l = 0 := by
  intro z
  apply h
  rw [tp_P_w D hw l, z, Int32.and_zero]
theorem tp_E_mem (D : tp_D) (u : Nat → Bool) : ∀ k l p, p ∈ tp_E D u k l → ∃ x q, p = x :: q ∧ (∀ y, y ∈ l → y ∈ q) ∧ l.length ≤ q.length ∧ q.length < l.length + k ∧ ¬ x ∈ q ∧ u x = true ∧ x < tp_m D ∧ ¬ tp_P D 15 p = 0 ∧ ((∀ y, y ∈ l → u y = true) → ∀ y, y ∈ q → u y = true) ∧ ((∀ y, y ∈ l → y < tp_m D) → ∀ y, y ∈ q → y < tp_m D) := by
  intro k
  induction k with
  | zero => intro l p h; exact absurd h (List.not_mem_nil)
  | succ k ih =>
    intro l p h
    rw [tp_E] at h
    obtain ⟨c, _, hc, h⟩ := tp_fm_mem _ _ h
    rcases List.mem_append.mp h with h | h
    · by_cases e : tp_en D u 15 l c = true
      · rw [if_pos e] at h
        have hp : p = c :: l := List.mem_singleton.mp h
        obtain ⟨h1, h2⟩ := tp_en_iff.mp e
        obtain ⟨a1, a2, a3, a4⟩ := tp_lk_iff.mp h1
        exact ⟨c, l, hp, fun y hy => hy, Nat.le_refl _, by omega, a2, a1, by omega, by rw [hp]; exact a4, fun g => g, fun g => g⟩
      · rw [if_neg e] at h
        exact absurd h (List.not_mem_nil)
    · by_cases e : tp_go D u 15 l c = true
      · rw [if_pos e] at h
        obtain ⟨h1, h2⟩ := tp_go_iff.mp e
        obtain ⟨a1, a2, a3, a4⟩ := tp_lk_iff.mp h1
        obtain ⟨x, q, e1, e2, e3, e4, e5, e6, e7, e8, e9, e10⟩ := ih (c :: l) p h
        rw [List.length_cons] at e3 e4
        refine ⟨x, q, e1, fun y hy => e2 y (List.mem_cons_of_mem _ hy), by omega, by omega, e5, e6, e7, e8, fun g => e9 ?_, fun g => e10 ?_⟩
        · intro y hy
          rcases List.mem_cons.mp hy with hy | hy
          · rw [hy]; exact a1
          · exact g y hy
        · intro y hy
          rcases List.mem_cons.mp hy with hy | hy
          · rw [hy]; omega
          · exact g y hy
      · rw [if_neg e] at h
        exact absurd h (List.not_mem_nil)
theorem tp_F_sup (D : tp_D) (u : Nat → Bool) (T : Nat) (w : Int32) : ∀ k l p, p ∈ tp_F D u T w k l → (∀ y, y ∈ l → y ∈ p) ∧ (∀ v, tp_P D v l = 0 → tp_P D v p = 0) := by
  intro k
  induction k with
  | zero =>
    intro l p h
    rw [tp_F] at h
    by_cases e : tp_en D u w l T = true
    · rw [if_pos e] at h
      have hp : p = T :: l := List.mem_singleton.mp h
      rw [hp]
      exact ⟨fun y hy => List.mem_cons_of_mem _ hy, fun v hv => tp_P_0 D v T hv⟩
    · rw [if_neg e] at h
      exact absurd h (List.not_mem_nil)
  | succ k ih =>
    intro l p h
    rw [tp_F] at h
    obtain ⟨c, _, hc, h⟩ := tp_fm_mem _ _ h
    by_cases e : tp_go D u w l c = true ∧ c ≠ T
    · rw [if_pos e] at h
      obtain ⟨h1, h2⟩ := ih (c :: l) p h
      exact ⟨fun y hy => h1 y (List.mem_cons_of_mem _ hy), fun v hv => h2 v (tp_P_0 D v c hv)⟩
    · rw [if_neg e] at h
      exact absurd h (List.not_mem_nil)
/-! F under fewer certificates and fewer policies -/
def tp_g (D : tp_D) (u : Nat → Bool) (w : Int32) (p : List Nat) : Bool := p.all u && !decide (tp_P D w p = 0)
theorem tp_g_iff {D : tp_D} {u : Nat → Bool} {w : Int32} {p : List Nat} : tp_g D u w p = true ↔ (∀ y, y ∈ p → u y = true) ∧ ¬ tp_P D w p = 0 := by
  unfold tp_g
  simp only [Bool.and_eq_true, Bool.not_eq_true', decide_eq_false_iff_not, List.all_eq_true]
theorem tp_lk_up {D : tp_D} {u u' : Nat → Bool} {w : Int32} {l : List Nat} {c : Nat} (hu : ∀ c, u' c = true → u c = true) (hw : w &&& 15 = w) (h : tp_lk D u' w l c = true) : tp_lk D u 15 l c = true := by
  obtain ⟨a1, a2, a3, a4⟩ := tp_lk_iff.mp h
  exact tp_lk_iff.mpr ⟨hu c a1, a2, a3, tp_P_15 D hw (l := c :: l) a4⟩
theorem tp_lk_dn {D : tp_D} {u u' : Nat → Bool} {w : Int32} {l : List Nat} {c : Nat} (h1 : u' c = true) (h2 : ¬ tp_P D w (c :: l) = 0) (h : tp_lk D u 15 l c = true) : tp_lk D u' w l c = true := by
  obtain ⟨a1, a2, a3, a4⟩ := tp_lk_iff.mp h
  exact tp_lk_iff.mpr ⟨h1, a2, a3, h2⟩
theorem tp_F_fl {D : tp_D} {u u' : Nat → Bool} {w : Int32} (T : Nat) (hu : ∀ c, u' c = true → u c = true) (hw : w &&& 15 = w) : ∀ k l, (∀ y, y ∈ l → u' y = true) → tp_F D u' T w k l = (tp_F D u T 15 k l).filter (tp_g D u' w) := by
  intro k
  induction k with
  | zero =>
    intro l hl
    rw [tp_F, tp_F]
    by_cases e : tp_en D u' w l T = true
    · obtain ⟨e1, e2⟩ := tp_en_iff.mp e
      have e3 : tp_en D u 15 l T = true := tp_en_iff.mpr ⟨tp_lk_up hu hw e1, e2⟩
      obtain ⟨a1, a2, a3, a4⟩ := tp_lk_iff.mp e1
      have e4 : tp_g D u' w (T :: l) = true := by
        refine tp_g_iff.mpr ⟨?_, a4⟩
        intro y hy
        rcases List.mem_cons.mp hy with hy | hy
        · rw [hy]; exact a1
        · exact hl y hy
      rw [if_pos e, if_pos e3, List.filter_cons_of_pos e4, List.filter_nil]
    · rw [if_neg e]
      by_cases e3 : tp_en D u 15 l T = true
      · rw [if_pos e3]
        have e4 : ¬ tp_g D u' w (T :: l) = true := by
          intro g
          obtain ⟨g1, g2⟩ := tp_g_iff.mp g
          obtain ⟨b1, b2⟩ := tp_en_iff.mp e3
          exact e (tp_en_iff.mpr ⟨tp_lk_dn (g1 T (List.mem_cons_self)) g2 b1, b2⟩)
        rw [List.filter_cons_of_neg e4, List.filter_nil]
      · rw [if_neg e3, List.filter_nil]
  | succ k ih =>
    intro l hl
    rw [tp_F, tp_F, tp_fm_filter]
    apply tp_fm_congr
    intro c _ _
    by_cases e : tp_go D u' w l c = true ∧ c ≠ T
    · obtain ⟨e0, eT⟩ := e
      obtain ⟨e1, e2⟩ := tp_go_iff.mp e0
      have e3 : tp_go D u 15 l c = true := tp_go_iff.mpr ⟨tp_lk_up hu hw e1, e2⟩
      obtain ⟨a1, a2, a3, a4⟩ := tp_lk_iff.mp e1
      rw [if_pos ⟨e0, eT⟩, if_pos ⟨e3, eT⟩]
      apply ih
      intro y hy
      rcases List.mem_cons.mp hy with hy | hy
      · rw [hy]; exact a1
      · exact hl y hy
    · rw [if_neg e]
      by_cases e3 : tp_go D u 15 l c = true ∧ c ≠ T
      · rw [if_pos e3]
        symm
        apply List.filter_eq_nil_iff.mpr
        intro p hp g
        obtain ⟨g1, g2⟩ := tp_g_iff.mp g
        obtain ⟨s1, s2⟩ := tp_F_sup D u T 15 k (c :: l) p hp
        obtain ⟨b1, b2⟩ := tp_go_iff.mp e3.1
        exact e ⟨tp_go_iff.mpr ⟨tp_lk_dn (g1 c (s1 c (List.mem_cons_self))) (fun z => g2 (s2 w z)) b1, b2⟩, e3.2⟩
      · rw [if_neg e3, List.filter_nil]
/-! F out of E -/
def tp_h (T n : Nat) (p : List Nat) : Bool := decide (p.head? = some T) && decide (p.length = n)
theorem tp_h_iff {T n : Nat} {p : List Nat} : tp_h T n p = true ↔ p.head? = some T ∧ p.length = n := by
  unfold tp_h
  simp only [Bool.and_eq_true, decide_eq_true_eq]
theorem tp_FE {D : tp_D} {u : Nat → Bool} {T : Nat} (hT : T < tp_m D) (j : Nat) : ∀ k l, ¬ T ∈ l → tp_F D u T 15 k l = (tp_E D u (k + j + 1) l).filter (tp_h T (l.length + k + 1)) := by
  intro k
  induction k with
  | zero =>
    intro l hl
    rw [tp_F, tp_E, tp_fm_filter]
    have e : tp_fm (fun c => ((if tp_en D u 15 l c = true then [c :: l] else []) ++ (if tp_go D u 15 l c = true then tp_E D u (0 + j) (c :: l) else [])).filter (tp_h T (l.length + 0 + 1))) (tp_m D) 0 = tp_fm (fun c => if c = T then (if tp_en D u 15 l T = true then [T :: l] else []) else []) (tp_m D) 0 := by
      apply tp_fm_congr
      intro c _ _
      rw [List.filter_append]
      have z : (if tp_go D u 15 l c = true then tp_E D u (0 + j) (c :: l) else []).filter (tp_h T (l.length + 0 + 1)) = [] := by
        apply List.filter_eq_nil_iff.mpr
        intro p hp g
        by_cases e : tp_go D u 15 l c = true
        · rw [if_pos e] at hp
          obtain ⟨x, q, e1, e2, e3, _⟩ := tp_E_mem D u _ _ p hp
          have g2 := (tp_h_iff.mp g).2
          rw [e1, List.length_cons] at g2
          rw [List.length_cons] at e3
          omega
        · rw [if_neg e] at hp
          exact absurd hp (List.not_mem_nil)
      rw [z, List.append_nil]
      by_cases hc : c = T
      · rw [if_pos hc, hc]
        by_cases e : tp_en D u 15 l T = true
        · rw [if_pos e, List.filter_cons_of_pos (tp_h_iff.mpr ⟨rfl, by rw [List.length_cons]⟩), List.filter_nil]
        · rw [if_neg e, List.filter_nil]
      · rw [if_neg hc]
        by_cases e : tp_en D u 15 l c = true
        · have hn : ¬ tp_h T (l.length + 0 + 1) (c :: l) = true := fun g => hc (Option.some.inj (tp_h_iff.mp g).1)
          rw [if_pos e, List.filter_cons_of_neg hn, List.filter_nil]
        · rw [if_neg e, List.filter_nil]
    rw [e, tp_fm_pick _ _ (Nat.zero_le _) (by omega)]
  | succ k ih =>
    intro l hl
    have ek : k + 1 + j + 1 = (k + j + 1) + 1 := by omega
    rw [ek, tp_F, tp_E, tp_fm_filter]
    apply tp_fm_congr
    intro c _ _
    rw [List.filter_append]
    have z : (if tp_en D u 15 l c = true then [c :: l] else []).filter (tp_h T (l.length + (k + 1) + 1)) = [] := by
      by_cases e : tp_en D u 15 l c = true
      · rw [if_pos e, List.filter_cons_of_neg ?_, List.filter_nil]
        intro g
        have g2 := (tp_h_iff.mp g).2
        rw [List.length_cons] at g2
        omega
      · rw [if_neg e, List.filter_nil]
    rw [z, List.nil_append]
    by_cases e : tp_go D u 15 l c = true
    · by_cases hc : c = T
      · rw [if_neg (fun g => g.2 hc), if_pos e]
        symm
        apply List.filter_eq_nil_iff.mpr
        intro p hp g
        obtain ⟨x, q, e1, e2, e3, e4, e5, _⟩ := tp_E_mem D u _ _ p hp
        have g1 := (tp_h_iff.mp g).1
        rw [e1] at g1
        have hx : x = T := Option.some.inj g1
        exact e5 (e2 x (by rw [hx, hc]; exact List.mem_cons_self))
      · rw [if_pos ⟨e, hc⟩, if_pos e, ih (c :: l) (fun g => by
          rcases List.mem_cons.mp g with g | g
          · exact hc g.symm
          · exact hl g)]
        have el : (c :: l).length + k + 1 = l.length + (k + 1) + 1 := by rw [List.length_cons]; omega
        rw [el]
    · rw [if_neg (fun g => e g.1), if_neg e, List.filter_nil]
end
section
/-! the best of a list of paths: the first of the shortest -/
def tp_best : List (List Nat) → Option (List Nat)
  | [] => none
  | p :: ev => match tp_best ev with
    | none => some p
    | some q => if q.length < p.length then some q else some p
def tp_bs (b : Option (List Nat)) (p : List Nat) : Option (List Nat) := match b with
  | none => some p
  | some q => if p.length < q.length then some p else some q
def tp_ln (b : Option (List Nat)) : Nat := match b with
  | none => 0
  | some q => q.length
theorem tp_best_snoc (p : List Nat) : ∀ ev, tp_best (ev ++ [p]) = tp_bs (tp_best ev) p := by
  intro ev
  induction ev with
  | nil => rfl
  | cons a ev ih =>
    rw [List.cons_append, tp_best, tp_best, ih]
    cases h : tp_best ev with
    | none => rfl
    | some q =>
      show (match tp_bs (some q) p with | none => some a | some q => if q.length < a.length then some q else some a) = tp_bs (if q.length < a.length then some q else some a) p
      by_cases h1 : p.length < q.length
      · have e1 : tp_bs (some q) p = some p := if_pos h1
        rw [e1]
        show (if p.length < a.length then some p else some a) = _
        by_cases h2 : q.length < a.length
        · rw [if_pos h2, if_pos (by omega), e1]
        · rw [if_neg h2]
          rfl
      · have e1 : tp_bs (some q) p = some q := if_neg h1
        rw [e1]
        show (if q.length < a.length then some q else some a) = _
        by_cases h2 : q.length < a.length
        · rw [if_pos h2, e1]
        · rw [if_neg h2]
          exact (if_neg (by omega)).symm
theorem tp_best_mem : ∀ ev q, tp_best ev = some q → q ∈ ev := by
  intro ev
  induction ev with
  | nil => intro q h; cases h
  | cons a ev ih =>
    intro q h
    rw [tp_best] at h
    cases hb : tp_best ev with
    | none =>
      rw [hb] at h
      have h2 : a = q := Option.some.inj h
      rw [h2]
      exact List.mem_cons_self
    | some r =>
      rw [hb] at h
      have h2 : (if r.length < a.length then some r else some a) = some q := h
      by_cases hl : r.length < a.length
      · rw [if_pos hl] at h2
        rw [← Option.some.inj h2]
        exact List.mem_cons_of_mem _ (ih r hb)
      · rw [if_neg hl] at h2
        rw [← Option.some.inj h2]
        exact List.mem_cons_self
theorem tp_best_none : ∀ ev, tp_best ev = none → ev = [] := by
  intro ev h
  cases ev with
  | nil => rfl
  | cons a ev =>
    rw [tp_best] at h
    cases hb : tp_best ev with
    | none => rw [hb] at h; cases h
    | some r =>
      rw [hb] at h
      have h2 : (if r.length < a.length then some r else some a) = none := h
      split at h2 <;> cases h2
def tp_l (n : Nat) (p : List Nat) : Bool := decide (p.length = n)
theorem tp_best_hit : ∀ ev L q t, ev.filter (tp_l L) = q :: t → (∀ j, j < L → ev.filter (tp_l j) = []) → tp_best ev = some q := by
  intro ev
  induction ev with
  | nil => intro L q t h; cases h
  | cons a ev ih =>
    intro L q t h hj
    have ha : L ≤ a.length := by
      apply Nat.le_of_not_lt
      intro hl
      have h2 := hj a.length hl
      rw [List.filter_cons_of_pos (by unfold tp_l; exact decide_eq_true rfl)] at h2
      cases h2
    have hj2 : ∀ j, j < L → ev.filter (tp_l j) = [] := by
      intro j hl
      have h2 := hj j hl
      rw [List.filter_cons_of_neg (by unfold tp_l; intro z; have := of_decide_eq_true z; omega)] at h2
      exact h2
    rw [tp_best]
    by_cases e : a.length = L
    · rw [List.filter_cons_of_pos (by unfold tp_l; exact decide_eq_true e)] at h
      have hq : a = q := (List.cons.inj h).1
      cases hb : tp_best ev with
      | none => show some a = some q; rw [hq]
      | some r =>
        have hr := tp_best_mem ev r hb
        have hr2 : L ≤ r.length := by
          apply Nat.le_of_not_lt
          intro hl
          have h3 := List.filter_eq_nil_iff.mp (hj2 r.length hl) r hr
          exact h3 (by unfold tp_l; exact decide_eq_true rfl)
        show (if r.length < a.length then some r else some a) = some q
        rw [if_neg (by omega), hq]
    · rw [List.filter_cons_of_neg (by unfold tp_l; intro z; exact e (of_decide_eq_true z))] at h
      rw [ih L q t h hj2]
      have hq : q.length = L := by
        have hm : q ∈ ev.filter (tp_l L) := by rw [h]; exact List.mem_cons_self
        exact of_decide_eq_true (List.mem_filter.mp hm).2
      show (if q.length < a.length then some q else some a) = some q
      rw [if_pos (by omega)]
/-! the events of one target -/
def tp_hd (T : Nat) (p : List Nat) : Bool := decide (p.head? = some T)
def tp_at (T : Nat) (ev : List (List Nat)) : List (List Nat) := ev.filter (tp_hd T)
theorem tp_at_snoc_t {T : Nat} {p : List Nat} (ev : List (List Nat)) (h : p.head? = some T) : tp_at T (ev ++ [p]) = tp_at T ev ++ [p] := by
  unfold tp_at
  rw [List.filter_append, List.filter_cons_of_pos (by unfold tp_hd; exact decide_eq_true h), List.filter_nil]
theorem tp_at_snoc_f {T : Nat} {p : List Nat} (ev : List (List Nat)) (h : ¬ p.head? = some T) : tp_at T (ev ++ [p]) = tp_at T ev := by
  unfold tp_at
  rw [List.filter_append, List.filter_cons_of_neg (by unfold tp_hd; intro z; exact h (of_decide_eq_true z)), List.filter_nil, List.append_nil]
theorem tp_mem_at {T : Nat} {p : List Nat} {ev : List (List Nat)} : p ∈ tp_at T ev ↔ p ∈ ev ∧ p.head? = some T := by
  unfold tp_at tp_hd
  rw [List.mem_filter, decide_eq_true_eq]
/-! what the component's search finds: r is the first path of the least length that has one -/
def tp_X (D : tp_D) (u : Nat → Bool) (T : Nat) (w : Int32) (r : Option (List Nat)) : Prop :=
  (r = none ∧ ∀ k, k < 6 → tp_F D u T w k [] = []) ∨ (∃ k q t, k < 6 ∧ r = some q ∧ tp_F D u T w k [] = q :: t ∧ ∀ j, j < k → tp_F D u T w j [] = [])
theorem tp_FA {D : tp_D} {u : Nat → Bool} {T : Nat} (hT : T < tp_m D) {k : Nat} (hk : k < 6) : tp_F D u T 15 k [] = (tp_at T (tp_E D u 6 [])).filter (tp_l (k + 1)) := by
  rw [tp_FE hT (5 - k) k [] (List.not_mem_nil)]
  have e : k + (5 - k) + 1 = 6 := by omega
  rw [e, tp_at, List.filter_filter]
  apply List.filter_congr
  intro p _
  show (decide (p.head? = some T) && decide (p.length = 0 + k + 1)) = (decide (p.length = k + 1) && decide (p.head? = some T))
  rw [Nat.zero_add, Bool.and_comm]
theorem tp_len_at {D : tp_D} {u : Nat → Bool} {T : Nat} {p : List Nat} (h : p ∈ tp_at T (tp_E D u 6 [])) : 1 ≤ p.length ∧ p.length ≤ 6 := by
  obtain ⟨x, q, e1, e2, e3, e4, _⟩ := tp_E_mem D u 6 [] p (tp_mem_at.mp h).1
  rw [List.length_nil] at e4
  rw [e1, List.length_cons]
  omega
theorem tp_X_best {D : tp_D} {u : Nat → Bool} {T : Nat} {r : Option (List Nat)} (hT : T < tp_m D) (h : tp_X D u T 15 r) : r = tp_best (tp_at T (tp_E D u 6 [])) := by
  rcases h with ⟨h1, h2⟩ | ⟨k, q, t, hk, h1, h2, h3⟩
  · rw [h1]
    cases hb : tp_best (tp_at T (tp_E D u 6 [])) with
    | none => rfl
    | some p =>
      have hp := tp_best_mem _ _ hb
      obtain ⟨l1, l2⟩ := tp_len_at hp
      have h4 := h2 (p.length - 1) (by omega)
      rw [tp_FA hT (by omega)] at h4
      exact absurd (decide_eq_true (show p.length = p.length - 1 + 1 by omega)) (List.filter_eq_nil_iff.mp h4 p hp)
  · rw [h1]
    rw [tp_FA hT hk] at h2
    symm
    apply tp_best_hit _ _ _ _ h2
    intro j hj
    by_cases h0 : j = 0
    · apply List.filter_eq_nil_iff.mpr
      intro p hp z
      have := of_decide_eq_true z
      have := tp_len_at hp
      omega
    · have h4 := h3 (j - 1) (by omega)
      rw [tp_FA hT (by omega)] at h4
      have e : j - 1 + 1 = j := by omega
      rw [e] at h4
      exact h4
/-! whether there is one, under fewer certificates and policies -/
theorem tp_X_none {D : tp_D} {u u' : Nat → Bool} {T : Nat} {w : Int32} {r : Option (List Nat)} (hT : T < tp_m D) (hu : ∀ c, u' c = true → u c = true) (hw : w &&& 15 = w) (h : tp_X D u' T w r) : r = none ↔ ∀ p, p ∈ tp_at T (tp_E D u 6 []) → ¬ tp_g D u' w p = true := by
  have key : ∀ k, k < 6 → (tp_F D u' T w k [] = [] ↔ ∀ p, p ∈ tp_at T (tp_E D u 6 []) → p.length = k + 1 → ¬ tp_g D u' w p = true) := by
    intro k hk
    rw [tp_F_fl T hu hw k [] (fun y hy => absurd hy (List.not_mem_nil)), tp_FA hT hk, List.filter_eq_nil_iff]
    constructor
    · intro g p hp hl
      exact g p (List.mem_filter.mpr ⟨hp, decide_eq_true hl⟩)
    · intro g p hp
      obtain ⟨p1, p2⟩ := List.mem_filter.mp hp
      exact g p p1 (of_decide_eq_true p2)
  rcases h with ⟨h1, h2⟩ | ⟨k, q, t, hk, h1, h2, h3⟩
  · constructor
    · intro _ p hp
      obtain ⟨l1, l2⟩ := tp_len_at hp
      exact (key (p.length - 1) (by omega)).mp (h2 _ (by omega)) p hp (by omega)
    · intro _; exact h1
  · constructor
    · intro z; rw [h1] at z; cases z
    · intro g
      have h4 := (key k hk).mpr (fun p hp _ => g p hp)
      rw [h2] at h4
      cases h4
end
section
/-! an array that holds a list (its last element first), place by place -/
def tp_st (a : Nat → Int32) : List Nat → Prop
  | [] => True
  | c :: l => a l.length = nI c ∧ tp_st a l
theorem tp_st_congr {a b : Nat → Int32} : ∀ l, (∀ i, i < l.length → b i = a i) → tp_st a l → tp_st b l := by
  intro l
  induction l with
  | nil => intro _ _; exact True.intro
  | cons c l ih =>
    intro h g
    rw [List.length_cons] at h
    exact ⟨(h _ (Nat.lt_succ_self _)).trans g.1, ih (fun i hi => h i (by omega)) g.2⟩
theorem tp_st_get {a : Nat → Int32} : ∀ l, tp_st a l → ∀ i, i < l.length → ∃ c, c ∈ l ∧ a i = nI c := by
  intro l
  induction l with
  | nil => intro _ i hi; exact absurd hi (Nat.not_lt_zero _)
  | cons c l ih =>
    intro g i hi
    rw [List.length_cons] at hi
    by_cases h : i = l.length
    · exact ⟨c, List.mem_cons_self, by rw [h]; exact g.1⟩
    · obtain ⟨d, h1, h2⟩ := ih g.2 i (by omega)
      exact ⟨d, List.mem_cons_of_mem _ h1, h2⟩
theorem tp_st_mem {a : Nat → Int32} : ∀ l, tp_st a l → ∀ c, c ∈ l → ∃ i, i < l.length ∧ a i = nI c := by
  intro l
  induction l with
  | nil => intro _ c hc; exact absurd hc (List.not_mem_nil)
  | cons d l ih =>
    intro g c hc
    rw [List.length_cons]
    rcases List.mem_cons.mp hc with hc | hc
    · exact ⟨l.length, by omega, by rw [hc]; exact g.1⟩
    · obtain ⟨i, h1, h2⟩ := ih g.2 c hc
      exact ⟨i, by omega, h2⟩
theorem tp_st_two {a b : Nat → Int32} : ∀ l, tp_st a l → tp_st b l → ∀ i, i < l.length → a i = b i := by
  intro l
  induction l with
  | nil => intro _ _ i hi; exact absurd hi (Nat.not_lt_zero _)
  | cons c l ih =>
    intro g h i hi
    rw [List.length_cons] at hi
    by_cases e : i = l.length
    · rw [e]; exact g.1.trans h.1.symm
    · exact ih g.2 h.2 i (by omega)
/-! the component's levels -/
def tp_lx (D : tp_D) (u : Nat → Bool) (T : Nat) (w : Int32) (cl nl rl pl : Nat → Int32) (l : List Nat) : Prop :=
  (∀ c, c < 32 → bt (cl l.length) c = (u c && (!decide (c = T) && !decide (c ∈ l)))) ∧ nl l.length = tp_N D l ∧ rl l.length = nI (tp_R D 6 l) ∧ pl l.length = tp_P D w l
def tp_LX (D : tp_D) (u : Nat → Bool) (T : Nat) (w : Int32) (cl nl rl pl : Nat → Int32) : List Nat → Prop
  | [] => tp_lx D u T w cl nl rl pl []
  | c :: l => tp_lx D u T w cl nl rl pl (c :: l) ∧ tp_LX D u T w cl nl rl pl l
theorem tp_LX_top {D : tp_D} {u : Nat → Bool} {T : Nat} {w : Int32} {cl nl rl pl : Nat → Int32} : ∀ l, tp_LX D u T w cl nl rl pl l → tp_lx D u T w cl nl rl pl l := by
  intro l h
  cases l with
  | nil => exact h
  | cons c l => exact h.1
theorem tp_lx_congr {D : tp_D} {u : Nat → Bool} {T : Nat} {w : Int32} {cl nl rl pl cl' nl' rl' pl' : Nat → Int32} {l : List Nat} (h1 : cl' l.length = cl l.length) (h2 : nl' l.length = nl l.length) (h3 : rl' l.length = rl l.length) (h4 : pl' l.length = pl l.length) (h : tp_lx D u T w cl nl rl pl l) : tp_lx D u T w cl' nl' rl' pl' l := by
  unfold tp_lx at *
  rw [h1, h2, h3, h4]
  exact h
theorem tp_LX_congr {D : tp_D} {u : Nat → Bool} {T : Nat} {w : Int32} {cl nl rl pl cl' nl' rl' pl' : Nat → Int32} : ∀ l, (∀ i, i ≤ l.length → cl' i = cl i ∧ nl' i = nl i ∧ rl' i = rl i ∧ pl' i = pl i) → tp_LX D u T w cl nl rl pl l → tp_LX D u T w cl' nl' rl' pl' l := by
  intro l
  induction l with
  | nil =>
    intro h g
    obtain ⟨h1, h2, h3, h4⟩ := h 0 (Nat.le_refl _)
    exact tp_lx_congr (l := []) h1 h2 h3 h4 g
  | cons c l ih =>
    intro h g
    obtain ⟨h1, h2, h3, h4⟩ := h (c :: l).length (Nat.le_refl _)
    exact ⟨tp_lx_congr h1 h2 h3 h4 g.1, ih (fun i hi => h i (by rw [List.length_cons]; omega)) g.2⟩
/-! the reference's levels -/
def tp_ly (D : tp_D) (na po ro : Nat → Int32) (l : List Nat) : Prop := na l.length = tp_N D l ∧ po l.length = tp_P D 15 l ∧ ro l.length = nI (tp_R D 100 l)
def tp_LY (D : tp_D) (na po ro : Nat → Int32) : List Nat → Prop
  | [] => tp_ly D na po ro []
  | c :: l => tp_ly D na po ro (c :: l) ∧ tp_LY D na po ro l
theorem tp_LY_top {D : tp_D} {na po ro : Nat → Int32} : ∀ l, tp_LY D na po ro l → tp_ly D na po ro l := by
  intro l h
  cases l with
  | nil => exact h
  | cons c l => exact h.1
theorem tp_ly_congr {D : tp_D} {na po ro na' po' ro' : Nat → Int32} {l : List Nat} (h1 : na' l.length = na l.length) (h2 : po' l.length = po l.length) (h3 : ro' l.length = ro l.length) (h : tp_ly D na po ro l) : tp_ly D na' po' ro' l := by
  unfold tp_ly at *
  rw [h1, h2, h3]
  exact h
theorem tp_LY_congr {D : tp_D} {na po ro na' po' ro' : Nat → Int32} : ∀ l, (∀ i, i ≤ l.length → na' i = na i ∧ po' i = po i ∧ ro' i = ro i) → tp_LY D na po ro l → tp_LY D na' po' ro' l := by
  intro l
  induction l with
  | nil =>
    intro h g
    obtain ⟨h1, h2, h3⟩ := h 0 (Nat.le_refl _)
    exact tp_ly_congr (l := []) h1 h2 h3 g
  | cons c l ih =>
    intro h g
    obtain ⟨h1, h2, h3⟩ := h (c :: l).length (Nat.le_refl _)
    exact ⟨tp_ly_congr h1 h2 h3 g.1, ih (fun i hi => h i (by rw [List.length_cons]; omega)) g.2⟩
/-! what the reference's tables hold for a target, after the events ev -/
def tp_Z (D : tp_D) (ev : List (List Nat)) (le fo co st : Nat → Int32) (T : Nat) : Prop :=
  le T = nI (tp_ln (tp_best (tp_at T ev))) ∧ (∀ q, tp_best (tp_at T ev) = some q → tp_st (fun i => st (6 * T + i)) q) ∧ (∀ b, b < 32 → (bt (fo T) b = true ↔ ∃ p, p ∈ tp_at T ev ∧ bt (tp_P D 15 p) b = true)) ∧ (∀ o, o < 32 → tp_at T ev ≠ [] → (bt (co T) o = true ↔ ∀ p, p ∈ tp_at T ev → o ∈ p.tail)) ∧ (∀ p, p ∈ tp_at T ev → 1 ≤ p.length ∧ p.length ≤ 6)
theorem tp_Z_0 {D : tp_D} {le fo co st : Nat → Int32} {T : Nat} (h1 : le T = 0) (h2 : fo T = 0) : tp_Z D [] le fo co st T := by
  refine ⟨h1.trans nI_0.symm, (fun q hq => nomatch (show (none : Option (List Nat)) = some q from hq)), ?_, fun o _ h => absurd rfl h, fun p hp => absurd hp (List.not_mem_nil)⟩
  intro b _
  rw [h2, b_0]
  constructor
  · intro z; cases z
  · intro ⟨p, hp, _⟩; exact absurd hp (List.not_mem_nil)
theorem tp_Z_congr {D : tp_D} {ev : List (List Nat)} {le fo co st le' fo' co' st' : Nat → Int32} {T : Nat} (hZ : tp_Z D ev le fo co st T) (e1 : le' T = le T) (e2 : fo' T = fo T) (e3 : co' T = co T) (e4 : ∀ i, i < 6 → st' (6 * T + i) = st (6 * T + i)) : tp_Z D ev le' fo' co' st' T := by
  obtain ⟨z1, z2, z3, z4, z5⟩ := hZ
  unfold tp_Z
  rw [e1, e2, e3]
  refine ⟨z1, fun q hq => ?_, z3, z4, z5⟩
  have hl := z5 q (tp_best_mem _ _ hq)
  exact tp_st_congr q (fun i hi => e4 i (by omega)) (z2 q hq)
theorem tp_Z_ne {D : tp_D} {ev : List (List Nat)} {le fo co st : Nat → Int32} {T c : Nat} {l : List Nat} (h : T ≠ c) (hZ : tp_Z D ev le fo co st T) : tp_Z D (ev ++ [c :: l]) le fo co st T := by
  unfold tp_Z
  have hn : ¬ (c :: l).head? = some T := fun z => h (Option.some.inj z).symm
  rw [tp_at_snoc_f ev hn]
  exact hZ
theorem tp_Z_eq {D : tp_D} {ev : List (List Nat)} {le fo co st le' fo' co' st' : Nat → Int32} {c : Nat} {l : List Nat} {ot : Int32} (hl : l.length ≤ 5) (hZ : tp_Z D ev le fo co st c) (ho : ∀ o, o < 32 → (bt ot o = true ↔ o ∈ l))
    (h1 : (le c = 0 ∨ nI (l.length + 1) < le c) → le' c = nI (l.length + 1) ∧ tp_st (fun i => st' (6 * c + i)) (c :: l)) (h2 : ¬ (le c = 0 ∨ nI (l.length + 1) < le c) → le' c = le c ∧ ∀ i, i < 6 → st' (6 * c + i) = st (6 * c + i)) (h3 : fo' c = fo c ||| tp_P D 15 (c :: l)) (h4 : le c = 0 → co' c = ot) (h5 : ¬ le c = 0 → co' c = co c &&& ot) : tp_Z D (ev ++ [c :: l]) le' fo' co' st' c := by
  obtain ⟨z1, z2, z3, z4, z5⟩ := hZ
  have ea : tp_at c (ev ++ [c :: l]) = tp_at c ev ++ [c :: l] := tp_at_snoc_t ev rfl
  have hf : ∀ b, b < 32 → (bt (fo' c) b = true ↔ ∃ p, p ∈ tp_at c ev ++ [c :: l] ∧ bt (tp_P D 15 p) b = true) := by
    intro b hb
    rw [h3, b_or, Bool.or_eq_true, z3 b hb]
    constructor
    · rintro (⟨p, p1, p2⟩ | g)
      · exact ⟨p, List.mem_append.mpr (Or.inl p1), p2⟩
      · exact ⟨c :: l, List.mem_append.mpr (Or.inr List.mem_cons_self), g⟩
    · rintro ⟨p, p1, p2⟩
      rcases List.mem_append.mp p1 with p1 | p1
      · exact Or.inl ⟨p, p1, p2⟩
      · rw [List.mem_singleton.mp p1] at p2
        exact Or.inr p2
  have h6 : ∀ p, p ∈ tp_at c ev ++ [c :: l] → 1 ≤ p.length ∧ p.length ≤ 6 := by
    intro p hp
    rcases List.mem_append.mp hp with hp | hp
    · exact z5 p hp
    · rw [List.mem_singleton.mp hp, List.length_cons]
      omega
  unfold tp_Z
  rw [ea, tp_best_snoc]
  cases hb : tp_best (tp_at c ev) with
  | none =>
    have hn := tp_best_none _ hb
    have h0 : le c = 0 := by rw [z1, hb]; rfl
    obtain ⟨g1, g2⟩ := h1 (Or.inl h0)
    refine ⟨g1, ?_, hf, ?_, h6⟩
    · intro q hq
      have hq2 : c :: l = q := Option.some.inj hq
      rw [← hq2]
      exact g2
    · intro o h32 _
      rw [h4 h0, ho o h32, hn]
      constructor
      · intro g p hp
        rw [List.nil_append] at hp
        rw [List.mem_singleton.mp hp]
        exact g
      · intro g
        exact g (c :: l) (List.mem_append.mpr (Or.inr List.mem_cons_self))
  | some r =>
    have hr := z5 r (tp_best_mem _ _ hb)
    have e0 : le c = nI r.length := by rw [z1, hb]; rfl
    have h0 : ¬ le c = 0 := by rw [e0]; exact nI_ne0 (by omega) (by omega)
    have hc : ∀ o, o < 32 → tp_at c ev ++ [c :: l] ≠ [] → (bt (co' c) o = true ↔ ∀ p, p ∈ tp_at c ev ++ [c :: l] → o ∈ p.tail) := by
      intro o h32 _
      have hne : tp_at c ev ≠ [] := by
        intro z
        rw [z] at hb
        cases hb
      rw [h5 h0, b_and, Bool.and_eq_true, z4 o h32 hne, ho o h32]
      constructor
      · intro ⟨g1, g2⟩ p hp
        rcases List.mem_append.mp hp with hp | hp
        · exact g1 p hp
        · rw [List.mem_singleton.mp hp]
          exact g2
      · intro g
        exact ⟨fun p hp => g p (List.mem_append.mpr (Or.inl hp)), g (c :: l) (List.mem_append.mpr (Or.inr List.mem_cons_self))⟩
    by_cases hs : l.length + 1 < r.length
    · obtain ⟨g1, g2⟩ := h1 (Or.inr (by rw [e0]; exact nI_lt hs (by omega)))
      have eb : tp_bs (some r) (c :: l) = some (c :: l) := if_pos hs
      rw [eb]
      refine ⟨g1, ?_, hf, hc, h6⟩
      intro q hq
      rw [← Option.some.inj hq]
      exact g2
    · obtain ⟨g1, g2⟩ := h2 (by
        intro z
        rcases z with z | z
        · exact h0 z
        · rw [e0, nI_ltI (by omega) (by omega)] at z
          exact hs z)
      have eb : tp_bs (some r) (c :: l) = some r := if_neg hs
      rw [eb]
      refine ⟨g1.trans e0, ?_, hf, hc, h6⟩
      intro q hq
      rw [← Option.some.inj hq]
      exact tp_st_congr r (fun i hi => g2 i (by omega)) (z2 r hb)
end
section
/-! small pure functions that both sides reckon -/
theorem tp_fm_skip {f : Nat → List (List Nat)} (n : Nat) : ∀ i s, (∀ c, s ≤ c → c < s + i → f c = []) → tp_fm f (i + n) s = tp_fm f n (s + i) := by
  intro i
  induction i with
  | zero => intro s _; rw [Nat.zero_add, Nat.add_zero]
  | succ i ih =>
    intro s h
    have e : i + 1 + n = (i + n) + 1 := by omega
    rw [e, tp_fm, h s (Nat.le_refl _) (by omega), ih (s + 1) (fun c h1 h2 => h c (by omega) (by omega)), List.nil_append]
    have e2 : s + 1 + i = s + (i + 1) := by omega
    rw [e2]
theorem tp_F_T {D : tp_D} {u : Nat → Bool} {T : Nat} {w : Int32} (hu : ¬ u T = true) : ∀ k l, tp_F D u T w k l = [] := by
  intro k
  induction k with
  | zero =>
    intro l
    rw [tp_F, if_neg (fun e => hu (tp_lk_iff.mp (tp_en_iff.mp e).1).1)]
  | succ k ih =>
    intro l
    rw [tp_F]
    apply tp_fm_nil
    intro c _ _
    by_cases e : tp_go D u w l c = true ∧ c ≠ T
    · rw [if_pos e, ih]
    · rw [if_neg e]
theorem tp_P_bit (D : tp_D) (w : Int32) (b : Nat) : ∀ l, bt (tp_P D w l) b = true → bt w b = true := by
  intro l
  induction l with
  | nil => intro h; exact h
  | cons c l ih =>
    intro h
    rw [tp_P, b_and, Bool.and_eq_true] at h
    exact ih h.1
/-- the set of those below n with f -/
def tp_mk (f : Nat → Bool) : Nat → Int32
  | 0 => 0
  | n + 1 => if f n = true then tp_mk f n ||| ((1 : Int32) <<< (nI n &&& 31)) else tp_mk f n
theorem tp_mk_bit (f : Nat → Bool) {i : Nat} (hi : i < 32) : ∀ n, n ≤ 32 → bt (tp_mk f n) i = (decide (i < n) && f i) := by
  intro n
  induction n with
  | zero => intro _; rw [tp_mk, b_0, decide_eq_false (Nat.not_lt_zero i), Bool.false_and]
  | succ n ih =>
    intro hn
    rw [tp_mk]
    by_cases h : f n = true
    · rw [if_pos h, tb_set _ (by omega) hi, ih (by omega)]
      by_cases e : i = n
      · subst e
        rw [h, decide_eq_true (rfl : i = i), decide_eq_true (Nat.lt_succ_self i)]
        simp
      · have e2 : decide (i < n + 1) = decide (i < n) := by
          apply decide_eq_decide.mpr
          omega
        rw [e2, decide_eq_false e, Bool.or_false]
    · rw [if_neg h, ih (by omega)]
      by_cases e : i = n
      · subst e
        have h2 : f i = false := by
          cases hf : f i with
          | true => exact absurd hf h
          | false => rfl
        rw [h2, Bool.and_false, Bool.and_false]
      · have e2 : decide (i < n + 1) = decide (i < n) := by
          apply decide_eq_decide.mpr
          omega
        rw [e2]
theorem tp_mk_congr {f g : Nat → Bool} : ∀ n, (∀ i, i < n → f i = g i) → tp_mk f n = tp_mk g n := by
  intro n
  induction n with
  | zero => intro _; rfl
  | succ n ih =>
    intro h
    rw [tp_mk, tp_mk, h n (Nat.lt_succ_self n), ih (fun i hi => h i (by omega))]
/-- how many below n have f -/
def tp_cn (f : Nat → Bool) : Nat → Nat
  | 0 => 0
  | n + 1 => if f n = true then tp_cn f n + 1 else tp_cn f n
theorem tp_cn_le (f : Nat → Bool) : ∀ n, tp_cn f n ≤ n := by
  intro n
  induction n with
  | zero => exact Nat.le_refl _
  | succ n ih => rw [tp_cn]; split <;> omega
/-- the set of the x c, c below n with f -/
def tp_ks (f : Nat → Bool) (x : Nat → Int32) : Nat → Int32
  | 0 => 0
  | n + 1 => if f n = true then tp_ks f x n ||| ((1 : Int32) <<< (x n &&& 31)) else tp_ks f x n
/-- the least from s on (n of them) with f, else -2 -/
def tp_fs (f : Nat → Bool) : Nat → Nat → Int32
  | 0, _ => -2
  | n + 1, s => if f s = true then nI s else tp_fs f n (s + 1)
/-- from s on, n of them: the last ahead of the first with f -/
def tp_un (f : Nat → Bool) : Nat → Nat → Int32 → Int32
  | 0, _, r => r
  | n + 1, s, r => if f s = true then r else tp_un f n (s + 1) (nI s)
/-- the moves of a search -/
def tp_M : Nat → Nat
  | 0 => 1
  | k + 1 => 12 * (tp_M k + 1) + 1
theorem tp_M_5 : ∀ k, k ≤ 5 → tp_M k ≤ 542905 := by decide +kernel
end
section
/-! the component's small methods, at a node l of the search -/
def tx_aa (aT aE : Nat → Int32) (v : Int32) : Nat → Bool
  | 0 => false
  | a + 1 => tx_aa aT aE v a || (!decide (aT a = 0) && decide (aE a = v))
def tx_S (D : tp_D) (sf au li aT aE : Nat → Int32) : Prop :=
  tp_m D ≤ 12 ∧ (∀ c, c < tp_m D → (au c = 1 ↔ tp_au D c = true)) ∧ (∀ c, c < tp_m D → (sf c = 0 ↔ ¬ tp_sf D c = true)) ∧ (∀ c, c < tp_m D → li c = nI (tp_lm D c) ∧ tp_lm D c ≤ 4) ∧ (∀ c, c < tp_m D → tp_an D c = tx_aa aT aE (tp_ie D c) 3)
section
variable {D : tp_D} {u : Nat → Bool} {T : Nat} {w : Int32} {aX : Int32} {sf gf gt au li rv he aT aE pa cl nl rl pl : Nat → Int32} {l : List Nat} {c : Nat}
theorem tx_linked {post : Int32 → Prop} (hS : tx_S D sf au li aT aE) (hA : ∀ c, c < tp_m D → bt aX c = tp_an D c) (hl : l.length ≤ 5) (hc : c < tp_m D) (hst : tp_st pa l) (hm : ∀ y, y ∈ l → y < tp_m D) (hlx : tp_lx D u T w cl nl rl pl l) (h1 : tp_fo D l c = true → ¬ tp_P D w l &&& tp_po D c = 0 → post 1) (h0 : ¬ (tp_fo D l c = true ∧ ¬ tp_P D w l &&& tp_po D c = 0) → post 0) : wpX_isLinked post ((nI (tp_m D)), aX, (tp_ie D), (tp_se D), sf, gf, gt, au, li, (tp_al D), (tp_ba D), (tp_po D), rv, he, aT, aE, pa, cl, nl, rl, pl) (nI l.length) (nI c) := by
  have h12 := hS.1
  have e1 : (nI l.length).toNatClampNeg = l.length := nI_clamp (by omega)
  have e2 : (nI c).toNatClampNeg = c := nI_clamp (by omega)
  unfold wpX_isLinked
  dsimp only
  rw [e1, e2, hlx.2.2.2]
  refine ⟨vp_in_nI (by omega) (by omega), vp_in_nI (by omega) (by omega), ?_⟩
  by_cases hp : tp_P D w l &&& tp_po D c = 0
  · exact br_t hp (h0 (fun g => g.2 hp))
  · refine br_f hp ?_
    cases l with
    | nil =>
      refine br_t nI_0 ?_
      by_cases ha : tp_an D c = true
      · exact br_t ((tb_has _ (by omega)).mpr (by rw [hA c hc]; exact ha)) (h1 ha hp)
      · exact br_f (fun g => ha (by rw [← hA c hc]; exact (tb_has _ (by omega)).mp g)) (h0 (fun g => ha g.1))
    | cons b l =>
      rw [List.length_cons] at hl
      have hb : b < tp_m D := hm b List.mem_cons_self
      have e3 : (nI (b :: l).length - 1) = nI l.length := nI_pred l.length
      have e4 : (nI l.length).toNatClampNeg = l.length := nI_clamp (by omega)
      have e5 : (nI b).toNatClampNeg = b := nI_clamp (by omega)
      rw [e3, e4, hst.1, e5]
      refine br_f (nI_ne0 (n := l.length + 1) (by omega) (by omega)) ⟨vp_in_nI (by omega) (by omega), vp_in_nI (by omega) (by omega), vp_in_nI (by omega) (by omega), ?_⟩
      by_cases he : tp_se D b = tp_ie D c
      · exact br_t he (h1 (decide_eq_true he) hp)
      · exact br_f he (h0 (fun g => he (of_decide_eq_true g.1)))
theorem tx_named {post : Int32 → Prop} (hS : tx_S D sf au li aT aE) (hl : l.length ≤ 5) (hc : c < tp_m D) (hlx : tp_lx D u T w cl nl rl pl l) (h1 : tp_nm D l c = true → post 1) (h0 : ¬ tp_nm D l c = true → post 0) : wpX_isNamed post ((nI (tp_m D)), aX, (tp_ie D), (tp_se D), sf, gf, gt, au, li, (tp_al D), (tp_ba D), (tp_po D), rv, he, aT, aE, pa, cl, nl, rl, pl) (nI l.length) (nI c) := by
  have h12 := hS.1
  have e1 : (nI l.length).toNatClampNeg = l.length := nI_clamp (by omega)
  have e2 : (nI c).toNatClampNeg = c := nI_clamp (by omega)
  unfold wpX_isNamed
  dsimp only
  rw [e1, e2, hlx.2.1]
  refine ⟨vp_in_nI (by omega) (by omega), vp_in_nI (by omega) (by omega), by decide, ?_⟩
  exact br_c (fun g => h1 (decide_eq_true g)) (fun g => h0 (fun z => g (of_decide_eq_true z)))
theorem tx_canEnd {post : Int32 → Prop} (hS : tx_S D sf au li aT aE) (hA : ∀ c, c < tp_m D → bt aX c = tp_an D c) (hl : l.length ≤ 5) (hc : c < tp_m D) (hst : tp_st pa l) (hm : ∀ y, y ∈ l → y < tp_m D) (hlx : tp_lx D u T w cl nl rl pl l) (h1 : tp_fo D l c = true → ¬ tp_P D w l &&& tp_po D c = 0 → tp_nm D l c = true → post 1) (h0 : ¬ (tp_fo D l c = true ∧ (¬ tp_P D w l &&& tp_po D c = 0) ∧ tp_nm D l c = true) → post 0) : wpX_canEnd post ((nI (tp_m D)), aX, (tp_ie D), (tp_se D), sf, gf, gt, au, li, (tp_al D), (tp_ba D), (tp_po D), rv, he, aT, aE, pa, cl, nl, rl, pl) (nI l.length) (nI c) := by
  unfold wpX_canEnd
  dsimp only
  refine tx_linked hS hA hl hc hst hm hlx (fun g1 g2 => ?_) (fun g => ?_)
  · refine br_f (by decide) ?_
    refine tx_named hS hl hc hlx (fun g3 => ?_) (fun g3 => ?_)
    · exact br_f (by decide) (h1 g1 g2 g3)
    · exact br_t rfl (h0 (fun z => g3 z.2.2))
  · exact br_t rfl (h0 (fun z => g ⟨z.1, z.2.1⟩))
theorem tx_next9 {post : Int32 → Prop} (hS : tx_S D sf au li aT aE) (hA : ∀ c, c < tp_m D → bt aX c = tp_an D c) (hl : l.length ≤ 5) (hst : tp_st pa l) (hm : ∀ y, y ∈ l → y < tp_m D) (hlx : tp_lx D u T w cl nl rl pl l) : ∀ j c n, c + j = tp_m D → j < n → (∀ d, c ≤ d → d < tp_m D → (tp_go D u w l d = true ∧ d ≠ T) → (∀ e, c ≤ e → e < d → ¬ (tp_go D u w l e = true ∧ e ≠ T)) → post (nI d)) → ((∀ d, c ≤ d → d < tp_m D → ¬ (tp_go D u w l d = true ∧ d ≠ T)) → post (-1)) → wX_nextBetween_9 post (nI l.length) (nI (tp_m D)) aX (tp_ie D) (tp_se D) sf gf gt au li (tp_al D) (tp_ba D) (tp_po D) rv he aT aE pa cl nl rl pl n (nI c) := by
  intro j
  induction j with
  | zero =>
    intro c n hj hn _ h0
    obtain ⟨n, rfl⟩ : ∃ k, n = k + 1 := ⟨n - 1, by omega⟩
    have h12 := hS.1
    exact br_t (nI_le (by omega) (by omega)) (h0 (fun d h1 h2 => by omega))
  | succ j ih =>
    intro c n hj hn hf h0
    obtain ⟨n, rfl⟩ : ∃ k, n = k + 1 := ⟨n - 1, by omega⟩
    have h12 := hS.1
    have hc : c < tp_m D := by omega
    have e1 : (nI l.length).toNatClampNeg = l.length := nI_clamp (by omega)
    have e2 : (nI c).toNatClampNeg = c := nI_clamp (by omega)
    have hbit := hlx.1 c (by omega)
    have nx : ¬ (tp_go D u w l c = true ∧ c ≠ T) → wX_nextBetween_9 post (nI l.length) (nI (tp_m D)) aX (tp_ie D) (tp_se D) sf gf gt au li (tp_al D) (tp_ba D) (tp_po D) rv he aT aE pa cl nl rl pl n (nI c + 1) := by
      intro hb
      rw [nI_1]
      refine ih (c + 1) n (by omega) (by omega) ?_ ?_
      · intro d h1 h2 h3 h4
        refine hf d (by omega) h2 h3 ?_
        intro e g1 g2
        by_cases z : e = c
        · rw [z]; exact hb
        · exact h4 e (by omega) g2
      · intro h4
        apply h0
        intro d h1 h2
        by_cases z : d = c
        · rw [z]; exact hb
        · exact h4 d (by omega) h2
    have ps : (tp_go D u w l c = true ∧ c ≠ T) → post (nI c) := fun g => hf c (Nat.le_refl _) hc g (fun e g1 g2 => by omega)
    have z45 : ¬ (tp_go D u w l c = true ∧ c ≠ T) → wX_nextBetween_45 post (wX_nextBetween_9 post (nI l.length) (nI (tp_m D)) aX (tp_ie D) (tp_se D) sf gf gt au li (tp_al D) (tp_ba D) (tp_po D) rv he aT aE pa cl nl rl pl n) (nI l.length) (nI c) (nI (tp_m D)) aX (tp_ie D) (tp_se D) sf gf gt au li (tp_al D) (tp_ba D) (tp_po D) rv he aT aE pa cl nl rl pl := fun hb => br_t rfl (nm_e (nx hb))
    rw [wX_nextBetween_9]
    dsimp only
    rw [e1, e2]
    refine br_f (nI_ge (by omega) (by omega)) ⟨vp_in_nI (by omega) (by omega), ?_⟩
    by_cases hb : bt (cl l.length) c = true
    · refine br_t ((tb_has _ (by omega)).mpr hb) ⟨vp_in_nI (by omega) (by omega), ?_⟩
      rw [hbit] at hb
      simp only [Bool.and_eq_true, Bool.not_eq_true', decide_eq_false_iff_not] at hb
      by_cases ha : au c = 1
      · refine br_t ha ?_
        have ha2 := (hS.2.1 c hc).mp ha
        unfold wX_nextBetween_46
        rw [e1, e2]
        refine br_f (by decide) ?_
        refine tx_linked hS hA hl hc hst hm hlx (fun g1 g2 => ?_) (fun g => ?_)
        · have hlk : tp_lk D u w l c = true := tp_lk_iff.mpr ⟨hb.1, hb.2.2, g1, g2⟩
          refine br_f (by decide) ⟨vp_in_nI (by omega) (by omega), ?_⟩
          by_cases hs : sf c = 0
          · refine br_t hs ⟨vp_in_nI (by omega) (by omega), ?_⟩
            have hs2 := (hS.2.2.1 c hc).mp hs
            have hr := tp_R_le D 6 l
            by_cases h6 : 0 < tp_R D 6 l
            · refine br_f (by rw [hlx.2.2.1]; exact nI_nle h6 (by omega)) ?_
              refine tx_named hS hl hc hlx (fun g3 => ?_) (fun g3 => ?_)
              · refine br_f (by decide) (ps ⟨tp_go_iff.mpr ⟨hlk, ha2, Or.inr ⟨(tp_room0 D hl).mp h6, g3⟩⟩, hb.2.1⟩)
              · refine br_t rfl (nm_e (nx (fun z => ?_)))
                rcases (tp_go_iff.mp z.1).2.2 with q | q
                · exact hs2 q
                · exact g3 q.2
            · refine br_t (by rw [hlx.2.2.1]; exact nI_le (b := 0) (by omega) (by omega)) (nm_e (nx (fun z => ?_)))
              rcases (tp_go_iff.mp z.1).2.2 with q | q
              · exact hs2 q
              · exact h6 ((tp_room0 D hl).mpr q.1)
          · have hs2 : tp_sf D c = true := Classical.byContradiction (fun z => hs ((hS.2.2.1 c hc).mpr z))
            exact br_f hs (ps ⟨tp_go_iff.mpr ⟨hlk, ha2, Or.inl hs2⟩, hb.2.1⟩)
        · refine br_t rfl (nm_e (nx (fun z => g ?_)))
          have q := tp_lk_iff.mp (tp_go_iff.mp z.1).1
          exact ⟨q.2.2.1, q.2.2.2⟩
      · refine br_f ha (z45 (fun z => ha ((hS.2.1 c hc).mpr (tp_go_iff.mp z.1).2.1)))
    · refine br_f (fun g => hb ((tb_has _ (by omega)).mp g)) (z45 (fun z => hb ?_))
      have q := tp_lk_iff.mp (tp_go_iff.mp z.1).1
      rw [hbit]
      simp only [Bool.and_eq_true, Bool.not_eq_true', decide_eq_false_iff_not]
      exact ⟨q.1, z.2, q.2.1⟩
theorem tx_next {post : Int32 → Prop} (hS : tx_S D sf au li aT aE) (hA : ∀ c, c < tp_m D → bt aX c = tp_an D c) (hl : l.length ≤ 5) (hst : tp_st pa l) (hm : ∀ y, y ∈ l → y < tp_m D) (hlx : tp_lx D u T w cl nl rl pl l) (hc : c ≤ tp_m D) (hp : pa l.length + 1 = nI c) (hf : ∀ d, c ≤ d → d < tp_m D → (tp_go D u w l d = true ∧ d ≠ T) → (∀ e, c ≤ e → e < d → ¬ (tp_go D u w l e = true ∧ e ≠ T)) → post (nI d)) (h0 : (∀ d, c ≤ d → d < tp_m D → ¬ (tp_go D u w l d = true ∧ d ≠ T)) → post (-1)) : wpX_nextBetween post ((nI (tp_m D)), aX, (tp_ie D), (tp_se D), sf, gf, gt, au, li, (tp_al D), (tp_ba D), (tp_po D), rv, he, aT, aE, pa, cl, nl, rl, pl) (nI l.length) := by
  have e1 : (nI l.length).toNatClampNeg = l.length := nI_clamp (by omega)
  unfold wpX_nextBetween
  dsimp only
  rw [e1]
  refine ⟨vp_in_nI (by omega) (by omega), nm_r hp ⟨tp_m D - c + 1, ?_⟩⟩
  exact tx_next9 hS hA hl hst hm hlx (tp_m D - c) c _ (by omega) (by omega) hf h0
theorem tx_open54 {post : SX → Prop} {r : Nat} (hS : tx_S D sf au li aT aE) (hl : l.length ≤ 4) (hc : c < tp_m D) (h : post ((nI (tp_m D)), aX, (tp_ie D), (tp_se D), sf, gf, gt, au, li, (tp_al D), (tp_ba D), (tp_po D), rv, he, aT, aE, pa, upd cl (l.length + 1) (cl l.length &&& (((1 : Int32) <<< (nI c &&& 31)) ^^^ (-1))), upd nl (l.length + 1) ((nl l.length &&& tp_al D c) &&& (tp_ba D c ^^^ (-1))), upd rl (l.length + 1) (nI r), upd pl (l.length + 1) (pl l.length &&& tp_po D c))) : wX_openNext_54 post (nI l.length) (nI c) (nI r) (nI (tp_m D)) aX (tp_ie D) (tp_se D) sf gf gt au li (tp_al D) (tp_ba D) (tp_po D) rv he aT aE pa cl nl rl pl := by
  have h12 := hS.1
  have e1 : (nI l.length).toNatClampNeg = l.length := nI_clamp (by omega)
  have e2 : (nI c).toNatClampNeg = c := nI_clamp (by omega)
  have e3 : (nI (l.length + 1)).toNatClampNeg = l.length + 1 := nI_clamp (by omega)
  have v1 : vp_in (nI l.length) 6 := vp_in_nI (by omega) (by omega)
  have v2 : vp_in (nI c) 12 := vp_in_nI (by omega) (by omega)
  have v3 : vp_in (nI (l.length + 1)) 6 := vp_in_nI (by omega) (by omega)
  unfold wX_openNext_54
  rw [nI_1 l.length, e1, e2, e3]
  exact ⟨v1, v3, nm_e ⟨v1, v2, v2, v3, nm_e ⟨v3, nm_e ⟨v1, v2, v3, nm_e h⟩⟩⟩⟩
theorem tx_open26 {post : SX → Prop} {r : Nat} (hS : tx_S D sf au li aT aE) (hl : l.length ≤ 4) (hr : r ≤ 100) (hc : c < tp_m D) (h : post ((nI (tp_m D)), aX, (tp_ie D), (tp_se D), sf, gf, gt, au, li, (tp_al D), (tp_ba D), (tp_po D), rv, he, aT, aE, pa, upd cl (l.length + 1) (cl l.length &&& (((1 : Int32) <<< (nI c &&& 31)) ^^^ (-1))), upd nl (l.length + 1) ((nl l.length &&& tp_al D c) &&& (tp_ba D c ^^^ (-1))), upd rl (l.length + 1) (nI (tp_cl (tp_lm D c) r)), upd pl (l.length + 1) (pl l.length &&& tp_po D c))) : wX_openNext_26 post (nI l.length) (nI c) (nI r) (nI (tp_m D)) aX (tp_ie D) (tp_se D) sf gf gt au li (tp_al D) (tp_ba D) (tp_po D) rv he aT aE pa cl nl rl pl := by
  have h12 := hS.1
  obtain ⟨hli, hl4⟩ := hS.2.2.2.1 c hc
  have e2 : (nI c).toNatClampNeg = c := nI_clamp (by omega)
  have v2 : vp_in (nI c) 12 := vp_in_nI (by omega) (by omega)
  unfold wX_openNext_26
  rw [e2, hli]
  refine ⟨v2, pk_le 4 (tp_lm D c) (fun g => ?_) (fun g => ⟨v2, pk_le r (tp_lm D c) (fun g2 => ?_) (fun g2 => ⟨v2, nm_e ?_⟩)⟩)⟩
  · have e : tp_cl (tp_lm D c) r = r := if_neg (by omega)
    rw [e] at h
    exact tx_open54 hS hl hc h
  · have e : tp_cl (tp_lm D c) r = r := if_neg (by omega)
    rw [e] at h
    exact tx_open54 hS hl hc h
  · have e : tp_cl (tp_lm D c) r = tp_lm D c := if_pos (by omega)
    rw [e] at h
    exact tx_open54 hS hl hc h
theorem tx_open {post : SX → Prop} (hS : tx_S D sf au li aT aE) (hl : l.length ≤ 4) (hc : c < tp_m D) (hlx : tp_lx D u T w cl nl rl pl l) (hr : tp_sf D c = true ∨ 0 < tp_R D 6 l) (h : post ((nI (tp_m D)), aX, (tp_ie D), (tp_se D), sf, gf, gt, au, li, (tp_al D), (tp_ba D), (tp_po D), rv, he, aT, aE, pa, upd cl (l.length + 1) (cl l.length &&& (((1 : Int32) <<< (nI c &&& 31)) ^^^ (-1))), upd nl (l.length + 1) ((nl l.length &&& tp_al D c) &&& (tp_ba D c ^^^ (-1))), upd rl (l.length + 1) (nI (tp_R D 6 (c :: l))), upd pl (l.length + 1) (pl l.length &&& tp_po D c))) : wpX_openNext post ((nI (tp_m D)), aX, (tp_ie D), (tp_se D), sf, gf, gt, au, li, (tp_al D), (tp_ba D), (tp_po D), rv, he, aT, aE, pa, cl, nl, rl, pl) (nI l.length) (nI c) := by
  have h12 := hS.1
  have e1 : (nI l.length).toNatClampNeg = l.length := nI_clamp (by omega)
  have e2 : (nI c).toNatClampNeg = c := nI_clamp (by omega)
  have v1 : vp_in (nI l.length) 6 := vp_in_nI (by omega) (by omega)
  have v2 : vp_in (nI c) 12 := vp_in_nI (by omega) (by omega)
  have h6 := tp_R_le D 6 l
  unfold wpX_openNext
  dsimp only
  rw [e1, e2, hlx.2.2.1]
  rw [tp_R] at h
  refine ⟨v2, ?_⟩
  by_cases hs : sf c = 0
  · have hs2 := (hS.2.2.1 c hc).mp hs
    have h0 : 0 < tp_R D 6 l := by
      rcases hr with hr | hr
      · exact absurd hr hs2
      · exact hr
    rw [if_neg hs2] at h
    have e4 : nI (tp_R D 6 l) - 1 = nI (tp_R D 6 l - 1) := by
      have := nI_pred (tp_R D 6 l - 1)
      rw [Nat.sub_add_cancel h0] at this
      exact this
    rw [e4]
    exact br_t hs ⟨v1, tx_open26 hS hl (by omega) hc h⟩
  · have hs2 : tp_sf D c = true := Classical.byContradiction (fun z => hs ((hS.2.2.1 c hc).mpr z))
    rw [if_pos hs2] at h
    exact br_f hs ⟨v1, tx_open26 hS hl (by omega) hc h⟩
theorem tx_open_LX (hl : l.length ≤ 4) (h : tp_LX D u T w cl nl rl pl l) (hc : c < 32) : tp_LX D u T w (upd cl (l.length + 1) (cl l.length &&& (((1 : Int32) <<< (nI c &&& 31)) ^^^ (-1)))) (upd nl (l.length + 1) ((nl l.length &&& tp_al D c) &&& (tp_ba D c ^^^ (-1)))) (upd rl (l.length + 1) (nI (tp_R D 6 (c :: l)))) (upd pl (l.length + 1) (pl l.length &&& tp_po D c)) (c :: l) := by
  obtain ⟨t1, t2, t3, t4⟩ := tp_LX_top l h
  refine ⟨⟨?_, ?_, ?_, ?_⟩, ?_⟩
  · intro d hd
    rw [List.length_cons, pk_us, tb_clr _ hc hd, t1 d hd]
    by_cases e : d = c
    · subst e
      simp
    · have e2 : (d ∈ c :: l) ↔ d ∈ l := by
        rw [List.mem_cons]
        exact ⟨fun z => z.resolve_left e, Or.inr⟩
      rw [decide_eq_false e, decide_eq_decide.mpr e2, Bool.not_false, Bool.and_true]
  · rw [List.length_cons, pk_us, t2, tp_N]
  · rw [List.length_cons, pk_us]
  · rw [List.length_cons, pk_us, t4, tp_P]
  · refine tp_LX_congr l (fun i hi => ⟨pk_un (by omega), pk_un (by omega), pk_un (by omega), pk_un (by omega)⟩) h
end
end
section
/-! the component's search -/
section
variable {D : tp_D} {u : Nat → Bool} {T : Nat} {w : Int32} {aX : Int32} {sf gf gt au li rv he aT aE pa cl nl rl pl : Nat → Int32} {l : List Nat} {c : Nat}
theorem tx_anch14 {post : Int32 → Prop} {J4 : Int32 → Int32 → Prop} (hS : tx_S D sf au li aT aE) (hc : c < tp_m D) : ∀ j a x n, a + j = 3 → j < n → (∀ i, i < 32 → bt x i = ((decide (i < c) && tp_an D i) || (decide (i = c) && tx_aa aT aE (tp_ie D c) a))) → (∀ x', (∀ i, i < 32 → bt x' i = ((decide (i < c) && tp_an D i) || (decide (i = c) && tx_aa aT aE (tp_ie D c) 3))) → J4 x' (nI (c + 1))) → wX_anchoredCertificates_14 post J4 (nI c) (nI (tp_m D)) aX (tp_ie D) (tp_se D) sf gf gt au li (tp_al D) (tp_ba D) (tp_po D) rv he aT aE pa cl nl rl pl n x (nI a) := by
  have h12 := hS.1
  have e2 : (nI c).toNatClampNeg = c := nI_clamp (by omega)
  intro j
  induction j with
  | zero =>
    intro a x n hj hn hx hJ
    obtain ⟨n, rfl⟩ : ∃ k, n = k + 1 := ⟨n - 1, by omega⟩
    have ha : a = 3 := by omega
    rw [ha] at hx
    exact br_t (nI_le (a := 3) (by omega) (by omega)) (nm_r (nI_1 c) (hJ x hx))
  | succ j ih =>
    intro a x n hj hn hx hJ
    obtain ⟨n, rfl⟩ : ∃ k, n = k + 1 := ⟨n - 1, by omega⟩
    have e1 : (nI a).toNatClampNeg = a := nI_clamp (by omega)
    rw [wX_anchoredCertificates_14]
    dsimp only
    rw [e1, e2]
    refine br_f (nI_ge (b := 3) (by omega) (by omega)) ⟨vp_in_nI (by omega) (by omega), ?_⟩
    by_cases h0 : aT a = 0
    · refine br_t h0 (nm_r (nI_1 a) (ih (a + 1) x n (by omega) (by omega) ?_ hJ))
      intro i hi
      rw [hx i hi, tx_aa, decide_eq_true h0]
      simp
    · refine br_f h0 ⟨vp_in_nI (by omega) (by omega), vp_in_nI (by omega) (by omega), ?_⟩
      by_cases h1 : aE a = tp_ie D c
      · refine br_t h1 (nm_e (nm_r (nI_1 a) (ih (a + 1) _ n (by omega) (by omega) ?_ hJ)))
        intro i hi
        rw [tb_set _ (by omega) hi, hx i hi, tx_aa, decide_eq_false h0, decide_eq_true h1]
        by_cases e : i = c
        · simp [e]
        · simp [e]
      · refine br_f h1 (nm_r (nI_1 a) (ih (a + 1) x n (by omega) (by omega) ?_ hJ))
        intro i hi
        rw [hx i hi, tx_aa, decide_eq_false h1]
        simp
theorem tx_anch4 {post : Int32 → Prop} (hS : tx_S D sf au li aT aE) (h : ∀ x, (∀ c, c < tp_m D → bt x c = tp_an D c) → post x) : ∀ j c x n, c + j = tp_m D → j < n → (∀ i, i < 32 → bt x i = (decide (i < c) && tp_an D i)) → wX_anchoredCertificates_4 post (nI (tp_m D)) aX (tp_ie D) (tp_se D) sf gf gt au li (tp_al D) (tp_ba D) (tp_po D) rv he aT aE pa cl nl rl pl n x (nI c) := by
  have h12 := hS.1
  intro j
  induction j with
  | zero =>
    intro c x n hj hn hx
    obtain ⟨n, rfl⟩ : ∃ k, n = k + 1 := ⟨n - 1, by omega⟩
    refine br_t (nI_le (by omega) (by omega)) (h x ?_)
    intro d hd
    rw [hx d (by omega), decide_eq_true (by omega), Bool.true_and]
  | succ j ih =>
    intro c x n hj hn hx
    obtain ⟨n, rfl⟩ : ∃ k, n = k + 1 := ⟨n - 1, by omega⟩
    refine br_f (nI_ge (by omega) (by omega)) ⟨4, ?_⟩
    refine tx_anch14 (c := c) hS (by omega) 3 0 x 4 (by omega) (by omega) ?_ ?_
    · intro i hi
      rw [hx i hi, tx_aa]
      simp
    · intro x' hx'
      refine ih (c + 1) x' n (by omega) (by omega) ?_
      intro i hi
      rw [hx' i hi]
      by_cases e : i = c
      · subst e
        rw [← hS.2.2.2.2 i (by omega)]
        simp
      · have e2 : decide (i < c + 1) = decide (i < c) := by
          apply decide_eq_decide.mpr
          omega
        rw [e2, decide_eq_false e]
        simp
theorem tx_anch {post : Int32 → Prop} (hS : tx_S D sf au li aT aE) (h : ∀ x, (∀ c, c < tp_m D → bt x c = tp_an D c) → post x) : wpX_anchoredCertificates post ((nI (tp_m D)), aX, (tp_ie D), (tp_se D), sf, gf, gt, au, li, (tp_al D), (tp_ba D), (tp_po D), rv, he, aT, aE, pa, cl, nl, rl, pl) := by
  refine ⟨tp_m D + 1, ?_⟩
  refine tx_anch4 hS h (tp_m D) 0 0 _ (by omega) (by omega) ?_
  intro i hi
  rw [b_0]
  simp
end
theorem tp_F_len (D : tp_D) (u : Nat → Bool) (T : Nat) (w : Int32) : ∀ k l p, p ∈ tp_F D u T w k l → p.length = l.length + k + 1 := by
  intro k
  induction k with
  | zero =>
    intro l p h
    rw [tp_F] at h
    by_cases e : tp_en D u w l T = true
    · rw [if_pos e] at h
      rw [List.mem_singleton.mp h, List.length_cons]
    · rw [if_neg e] at h
      exact absurd h (List.not_mem_nil)
  | succ k ih =>
    intro l p h
    rw [tp_F] at h
    obtain ⟨c, _, hc, h⟩ := tp_fm_mem _ _ h
    by_cases e : tp_go D u w l c = true ∧ c ≠ T
    · rw [if_pos e] at h
      rw [ih (c :: l) p h, List.length_cons]
      omega
    · rw [if_neg e] at h
      exact absurd h (List.not_mem_nil)
section
variable {D : tp_D} {u : Nat → Bool} {T : Nat} {w : Int32} {aX : Int32} {sf gf gt au li rv he aT aE : Nat → Int32}
/-- what a node of k levels below it does: the state and moves of a node are W -/
def tx_Node (D : tp_D) (u : Nat → Bool) (T : Nat) (w : Int32) (aX : Int32) (sf gf gt au li rv he aT aE : Nat → Int32) (post : Int32 → SX → Prop) (la : Nat) (L : List (List Nat)) (M : Nat) (l : List Nat) (pa cl nl rl pl : Nat → Int32) (n mv : Nat) : Prop :=
  (∀ q t pa' cl' nl' rl' pl', L = q :: t → tp_st pa' q → post 1 ((nI (tp_m D)), aX, (tp_ie D), (tp_se D), sf, gf, gt, au, li, (tp_al D), (tp_ba D), (tp_po D), rv, he, aT, aE, pa', cl', nl', rl', pl')) → (L = [] → ∀ pa' cl' nl' rl' pl', (∀ i, i < l.length → pa' i = pa i) → (∀ i, i ≤ l.length → cl' i = cl i ∧ nl' i = nl i ∧ rl' i = rl i ∧ pl' i = pl i) → ∀ n' mv', n' + mv' = n + mv → mv' ≤ mv + M → wX_findPath_12 post (nI T) (nI la) n' (nI l.length + (-1)) (nI mv') (nI (tp_m D)) aX (tp_ie D) (tp_se D) sf gf gt au li (tp_al D) (tp_ba D) (tp_po D) rv he aT aE pa' cl' nl' rl' pl') → wX_findPath_12 post (nI T) (nI la) n (nI l.length) (nI mv) (nI (tp_m D)) aX (tp_ie D) (tp_se D) sf gf gt au li (tp_al D) (tp_ba D) (tp_po D) rv he aT aE pa cl nl rl pl
theorem tx_node0 {post : Int32 → SX → Prop} {la : Nat} (hS : tx_S D sf au li aT aE) (hA : ∀ c, c < tp_m D → bt aX c = tp_an D c) (hla : la ≤ 5) (hT : T < tp_m D) (hu : u T = true) {l : List Nat} {pa cl nl rl pl : Nat → Int32} {n mv : Nat} (hk : l.length = la) (hst : tp_st pa l) (hm : ∀ y, y ∈ l → y < tp_m D) (hTl : ¬ T ∈ l) (hLX : tp_LX D u T w cl nl rl pl l) (hb : mv + 1 ≤ 3999999) (hn : 4000000 ≤ n + mv) : tx_Node D u T w aX sf gf gt au li rv he aT aE post la (tp_F D u T w 0 l) 1 l pa cl nl rl pl n mv := by
  intro hf hr
  obtain ⟨n, rfl⟩ : ∃ k, n = k + 1 := ⟨n - 1, by omega⟩
  have h12 := hS.1
  have hlx := tp_LX_top l hLX
  have e1 : (nI l.length).toNatClampNeg = l.length := nI_clamp (by omega)
  rw [wX_findPath_12]
  dsimp only
  refine br_f (nI_pos (by omega)) (br_f (nI_ge (b := 4000000) (by omega) (by omega)) (br_t (by rw [hk]) ?_))
  refine tx_canEnd hS hA (by omega) hT hst hm hlx (fun g1 g2 g3 => ?_) (fun g => ?_)
  · have hen : tp_en D u w l T = true := tp_en_iff.mpr ⟨tp_lk_iff.mpr ⟨hu, hTl, g1, g2⟩, g3⟩
    rw [e1]
    refine br_f (by decide) ⟨vp_in_nI (by omega) (by omega), nm_e ?_⟩
    refine hf (T :: l) [] _ cl nl rl pl (by rw [tp_F, if_pos hen]) ⟨pk_us, ?_⟩
    exact tp_st_congr l (fun i hi => pk_un (by omega)) hst
  · have hen : ¬ tp_en D u w l T = true := by
      intro z
      have z1 := tp_en_iff.mp z
      have z2 := tp_lk_iff.mp z1.1
      exact g ⟨z2.2.2.1, z2.2.2.2, z1.2⟩
    refine br_t rfl (nm_e (nm_r (nI_1 mv) ?_))
    exact hr (by rw [tp_F, if_neg hen]) pa cl nl rl pl (fun i _ => rfl) (fun i _ => ⟨rfl, rfl, rfl, rfl⟩) n (mv + 1) (by omega) (by omega)
theorem tx_cand {post : Int32 → SX → Prop} {la k : Nat} (hS : tx_S D sf au li aT aE) (hA : ∀ c, c < tp_m D → bt aX c = tp_an D c) (hla : la ≤ 5) (hT : T < tp_m D) (hk5 : k < 5)
    (IH : ∀ (l : List Nat) (pa cl nl rl pl : Nat → Int32) (n mv : Nat), l.length + k = la → tp_st pa l → pa l.length = -1 → (∀ y, y ∈ l → y < tp_m D) → ¬ T ∈ l → tp_LX D u T w cl nl rl pl l → mv + tp_M k ≤ 3999999 → 4000000 ≤ n + mv → tx_Node D u T w aX sf gf gt au li rv he aT aE post la (tp_F D u T w k l) (tp_M k) l pa cl nl rl pl n mv) :
    ∀ (j c : Nat) (l : List Nat) (pa cl nl rl pl : Nat → Int32) (n mv : Nat), c + j = tp_m D → l.length + (k + 1) = la → tp_st pa l → pa l.length + 1 = nI c → (∀ y, y ∈ l → y < tp_m D) → ¬ T ∈ l → tp_LX D u T w cl nl rl pl l → mv + (j * (tp_M k + 1) + 1) ≤ 3999999 → 4000000 ≤ n + mv → tx_Node D u T w aX sf gf gt au li rv he aT aE post la (tp_fm (fun c => if tp_go D u w l c = true ∧ c ≠ T then tp_F D u T w k (c :: l) else []) j c) (j * (tp_M k + 1) + 1) l pa cl nl rl pl n mv := by
  have h12 := hS.1
  intro j
  induction j using Nat.strongRecOn with
  | _ j ihj =>
    intro c l pa cl nl rl pl n mv hcj hk hst hpa hm hTl hLX hb hn hf hr
    obtain ⟨n, rfl⟩ : ∃ k, n = k + 1 := ⟨n - 1, by omega⟩
    have hlx := tp_LX_top l hLX
    have e1 : (nI l.length).toNatClampNeg = l.length := nI_clamp (by omega)
    have e3 : (nI (l.length + 1)).toNatClampNeg = l.length + 1 := nI_clamp (by omega)
    rw [wX_findPath_12]
    dsimp only
    refine br_f (nI_pos (by omega)) (br_f (nI_ge (b := 4000000) (by omega) (by omega)) (br_f (fun z => ?_) ?_))
    · rw [nI_eq (by omega) (by omega)] at z
      omega
    refine tx_next (c := c) hS hA (by omega) hst hm hlx (by omega) hpa (fun d h1 h2 h3 h4 => ?_) (fun h0 => ?_)
    · have hfm : tp_fm (fun c => if tp_go D u w l c = true ∧ c ≠ T then tp_F D u T w k (c :: l) else []) j c = tp_F D u T w k (d :: l) ++ tp_fm (fun c => if tp_go D u w l c = true ∧ c ≠ T then tp_F D u T w k (c :: l) else []) (tp_m D - d - 1) (d + 1) := by
        have ej : j = (d - c) + ((tp_m D - d - 1) + 1) := by omega
        have ed : c + (d - c) = d := by omega
        rw [ej, tp_fm_skip _ (d - c) c (fun e g1 g2 => if_neg (h4 e g1 (by omega))), ed, tp_fm]
        rw [if_pos h3]
      rw [hfm] at hf hr
      have hne : ¬ nI d = -1 := by
        intro z
        have z2 : (nI d).toInt = -1 := by rw [z]; decide
        rw [nI_toInt (by omega)] at z2
        omega
      rw [e1]
      refine br_f hne ⟨vp_in_nI (by omega) (by omega), nm_e ?_⟩
      have hgo := tp_go_iff.mp h3.1
      refine tx_open (u := u) (T := T) (w := w) hS (by omega) h2 hlx ?_ ?_
      · rcases hgo.2.2 with q | q
        · exact Or.inl q
        · exact Or.inr ((tp_room0 D (by omega)).mpr q.1)
      refine nm_r (nI_1 l.length) ?_
      rw [e3]
      refine ⟨vp_in_nI (by omega) (by omega), nm_e (nm_r (nI_1 mv) ?_)⟩
      have hmul : j * (tp_M k + 1) = (tp_m D - d - 1) * (tp_M k + 1) + (d - c + 1) * (tp_M k + 1) := by
        rw [← Nat.add_mul]
        congr 1
        omega
      have hmul2 : (d - c + 1) * (tp_M k + 1) = (d - c) * (tp_M k + 1) + (tp_M k + 1) := by
        rw [Nat.add_mul, Nat.one_mul]
      have hp0 : ∀ i, i < l.length → upd (upd pa l.length (nI d)) (l.length + 1) (-1) i = pa i := by
        intro i hi
        rw [pk_un (by omega), pk_un (by omega)]
      have hp1 : upd (upd pa l.length (nI d)) (l.length + 1) (-1) l.length = nI d := by
        rw [pk_un (by omega), pk_us]
      have hl1 : (d :: l).length = l.length + 1 := List.length_cons
      have hIH := IH (d :: l) (upd (upd pa l.length (nI d)) (l.length + 1) (-1)) (upd cl (l.length + 1) (cl l.length &&& (((1 : Int32) <<< (nI d &&& 31)) ^^^ (-1)))) (upd nl (l.length + 1) ((nl l.length &&& tp_al D d) &&& (tp_ba D d ^^^ (-1)))) (upd rl (l.length + 1) (nI (tp_R D 6 (d :: l)))) (upd pl (l.length + 1) (pl l.length &&& tp_po D d)) n (mv + 1) (by omega) ⟨hp1, tp_st_congr l hp0 hst⟩ (by rw [hl1]; exact pk_us) ?_ ?_ (tx_open_LX (by omega) hLX (by omega)) (by omega) (by omega)
      · refine hIH ?_ ?_
        · intro q t pa' cl' nl' rl' pl' e g
          exact hf q _ pa' cl' nl' rl' pl' (by rw [e, List.cons_append]) g
        · intro e0 pa' cl' nl' rl' pl' g1 g2 n' mv' g3 g4
          rw [e0, List.nil_append] at hf hr
          have ep : nI (d :: l).length + (-1) = nI l.length := pk_m1 l.length
          rw [ep]
          refine ihj (tp_m D - d - 1) (by omega) (d + 1) l pa' cl' nl' rl' pl' n' mv' (by omega) hk ?_ ?_ hm hTl ?_ (by omega) (by omega) hf ?_
          · exact tp_st_congr l (fun i hi => (g1 i (by omega)).trans (hp0 i hi)) hst
          · rw [g1 l.length (by omega), hp1, nI_1]
          · refine tp_LX_congr l (fun i hi => ?_) hLX
            obtain ⟨k1, k2, k3, k4⟩ := g2 i (by omega)
            exact ⟨k1.trans (pk_un (by omega)), k2.trans (pk_un (by omega)), k3.trans (pk_un (by omega)), k4.trans (pk_un (by omega))⟩
          · intro e2 pa2 cl2 nl2 rl2 pl2 f1 f2 n2 mv2 f3 f4
            refine hr e2 pa2 cl2 nl2 rl2 pl2 ?_ ?_ n2 mv2 (by omega) (by omega)
            · intro i hi
              exact (f1 i hi).trans ((g1 i (by omega)).trans (hp0 i hi))
            · intro i hi
              obtain ⟨k1, k2, k3, k4⟩ := g2 i (by omega)
              obtain ⟨m1, m2, m3, m4⟩ := f2 i hi
              exact ⟨m1.trans (k1.trans (pk_un (by omega))), m2.trans (k2.trans (pk_un (by omega))), m3.trans (k3.trans (pk_un (by omega))), m4.trans (k4.trans (pk_un (by omega)))⟩
      · intro y hy
        rcases List.mem_cons.mp hy with hy | hy
        · rw [hy]; exact h2
        · exact hm y hy
      · intro hy
        rcases List.mem_cons.mp hy with hy | hy
        · exact h3.2 hy.symm
        · exact hTl hy
    · refine br_t rfl (nm_e (nm_r (nI_1 mv) ?_))
      refine hr ?_ pa cl nl rl pl (fun i _ => rfl) (fun i _ => ⟨rfl, rfl, rfl, rfl⟩) n (mv + 1) (by omega) (by omega)
      exact tp_fm_nil j c (fun d g1 g2 => if_neg (h0 d g1 (by omega)))
theorem tx_node {post : Int32 → SX → Prop} {la : Nat} (hS : tx_S D sf au li aT aE) (hA : ∀ c, c < tp_m D → bt aX c = tp_an D c) (hla : la ≤ 5) (hT : T < tp_m D) (hu : u T = true) : ∀ (k : Nat) (l : List Nat) (pa cl nl rl pl : Nat → Int32) (n mv : Nat), l.length + k = la → tp_st pa l → pa l.length = -1 → (∀ y, y ∈ l → y < tp_m D) → ¬ T ∈ l → tp_LX D u T w cl nl rl pl l → mv + tp_M k ≤ 3999999 → 4000000 ≤ n + mv → tx_Node D u T w aX sf gf gt au li rv he aT aE post la (tp_F D u T w k l) (tp_M k) l pa cl nl rl pl n mv := by
  intro k
  induction k with
  | zero =>
    intro l pa cl nl rl pl n mv hk hst hpa hm hTl hLX hb hn
    exact tx_node0 hS hA hla hT hu (by omega) hst hm hTl hLX hb hn
  | succ k ih =>
    intro l pa cl nl rl pl n mv hk hst hpa hm hTl hLX hb hn
    have h12 := hS.1
    have hM : tp_m D * (tp_M k + 1) ≤ 12 * (tp_M k + 1) := Nat.mul_le_mul_right _ h12
    have hM2 : tp_M (k + 1) = 12 * (tp_M k + 1) + 1 := rfl
    have h := tx_cand (w := w) (u := u) (post := post) hS hA hla hT (by omega) ih (tp_m D) 0 l pa cl nl rl pl n mv (by omega) hk hst (by rw [hpa]; exact (by decide : (-1 : Int32) + 1 = 0)) hm hTl hLX (by omega) hn
    intro hf hr
    refine h hf (fun e pa' cl' nl' rl' pl' g1 g2 n' mv' g3 g4 => hr e pa' cl' nl' rl' pl' g1 g2 n' mv' g3 (by omega))
theorem tx_find {post : Int32 → SX → Prop} {k : Nat} {pa cl nl rl pl : Nat → Int32} (hS : tx_S D sf au li aT aE) (hA : ∀ c, c < tp_m D → bt aX c = tp_an D c) (hk : k ≤ 5) (hT : T < tp_m D) (hu : u T = true) (hLX : tp_LX D u T w cl nl rl pl []) (hf : ∀ q t pa' cl' nl' rl' pl', tp_F D u T w k [] = q :: t → tp_st pa' q → post 1 ((nI (tp_m D)), aX, (tp_ie D), (tp_se D), sf, gf, gt, au, li, (tp_al D), (tp_ba D), (tp_po D), rv, he, aT, aE, pa', cl', nl', rl', pl')) (hr : tp_F D u T w k [] = [] → ∀ pa' cl' nl' rl' pl', tp_LX D u T w cl' nl' rl' pl' [] → post 0 ((nI (tp_m D)), aX, (tp_ie D), (tp_se D), sf, gf, gt, au, li, (tp_al D), (tp_ba D), (tp_po D), rv, he, aT, aE, pa', cl', nl', rl', pl')) : wpX_findPath post ((nI (tp_m D)), aX, (tp_ie D), (tp_se D), sf, gf, gt, au, li, (tp_al D), (tp_ba D), (tp_po D), rv, he, aT, aE, pa, cl, nl, rl, pl) (nI T) (nI k) := by
  have hM := tp_M_5 k hk
  unfold wpX_findPath
  refine nm_e ⟨4000000, ?_⟩
  have h := tx_node (w := w) (u := u) (post := post) (gf := gf) (gt := gt) (rv := rv) (he := he) hS hA hk hT hu k [] (upd pa 0 (-1)) cl nl rl pl 4000000 0 (by simp) True.intro pk_us (fun y hy => absurd hy (List.not_mem_nil)) (List.not_mem_nil) hLX (by omega) (by omega)
  refine h hf (fun e pa' cl' nl' rl' pl' g1 g2 n' mv' g3 g4 => ?_)
  obtain ⟨n, rfl⟩ : ∃ k, n' = k + 1 := ⟨n' - 1, by omega⟩
  refine br_t (by decide) (hr e pa' cl' nl' rl' pl' ?_)
  exact tp_LX_congr [] g2 hLX
end
end
section
/-! the component's bestLength and usableAt -/
section
variable {D : tp_D} {u : Nat → Bool} {T : Nat} {w : Int32} {aX : Int32} {sf gf gt au li rv he aT aE pa cl nl rl pl : Nat → Int32}
theorem tx_best58 {post : Int32 → SX → Prop} (hS : tx_S D sf au li aT aE) (hA : ∀ c, c < tp_m D → bt aX c = tp_an D c) (hT : T < tp_m D) (hu : u T = true) (H : ∀ r pa' cl' nl' rl' pl', tp_X D u T w r → (∀ q, r = some q → tp_st pa' q) → post (nI (tp_ln r)) ((nI (tp_m D)), aX, (tp_ie D), (tp_se D), sf, gf, gt, au, li, (tp_al D), (tp_ba D), (tp_po D), rv, he, aT, aE, pa', cl', nl', rl', pl')) : ∀ (j k : Nat) (pa cl nl rl pl : Nat → Int32) (n : Nat), k + j = 6 → j < n → tp_LX D u T w cl nl rl pl [] → (∀ i, i < k → tp_F D u T w i [] = []) → wX_bestLength_58 post (nI T) n (nI (k + 1)) (nI (tp_m D)) aX (tp_ie D) (tp_se D) sf gf gt au li (tp_al D) (tp_ba D) (tp_po D) rv he aT aE pa cl nl rl pl := by
  intro j
  induction j with
  | zero =>
    intro k pa cl nl rl pl n hk hn hLX h0
    obtain ⟨n, rfl⟩ : ∃ k, n = k + 1 := ⟨n - 1, by omega⟩
    refine br_t (nI_lt (a := 6) (by omega) (by omega)) ?_
    exact H none pa cl nl rl pl (Or.inl ⟨rfl, fun i hi => h0 i (by omega)⟩) (fun q hq => nomatch hq)
  | succ j ih =>
    intro k pa cl nl rl pl n hk hn hLX h0
    obtain ⟨n, rfl⟩ : ∃ k, n = k + 1 := ⟨n - 1, by omega⟩
    rw [wX_bestLength_58]
    dsimp only
    refine br_f (nI_nlt (a := 6) (by omega) (by omega)) ?_
    rw [nI_pred k]
    refine tx_find (k := k) hS hA (by omega) hT hu hLX (fun q t pa' cl' nl' rl' pl' e g => ?_) (fun e pa' cl' nl' rl' pl' g => ?_)
    · have hq : q.length = k + 1 := by
        have := tp_F_len D u T w k [] q (by rw [e]; exact List.mem_cons_self)
        rw [List.length_nil] at this
        omega
      have h := H (some q) pa' cl' nl' rl' pl' (Or.inr ⟨k, q, t, by omega, rfl, e, h0⟩) (fun q2 hq2 => by rw [← Option.some.inj hq2]; exact g)
      rw [tp_ln, hq] at h
      exact br_f (by decide) h
    · refine br_t rfl (nm_r (nI_1 (k + 1)) (ih (k + 1) pa' cl' nl' rl' pl' n (by omega) (by omega) g ?_))
      intro i hi
      by_cases z : i = k
      · rw [z]; exact e
      · exact h0 i (by omega)
theorem tx_best {post : Int32 → SX → Prop} {U : Int32} (hS : tx_S D sf au li aT aE) (hT : T < tp_m D) (H : ∀ r aX' pa' cl' nl' rl' pl', tp_X D (bt U) T w r → (∀ q, r = some q → tp_st pa' q) → post (nI (tp_ln r)) ((nI (tp_m D)), aX', (tp_ie D), (tp_se D), sf, gf, gt, au, li, (tp_al D), (tp_ba D), (tp_po D), rv, he, aT, aE, pa', cl', nl', rl', pl')) : wpX_bestLength post ((nI (tp_m D)), aX, (tp_ie D), (tp_se D), sf, gf, gt, au, li, (tp_al D), (tp_ba D), (tp_po D), rv, he, aT, aE, pa, cl, nl, rl, pl) (nI T) U w := by
  have h12 := hS.1
  unfold wpX_bestLength
  by_cases hb : bt U T = true
  · refine br_f (fun z => ?_) ?_
    · rw [tb_has0 _ (by omega), hb] at z
      cases z
    refine tx_anch hS (fun x hx => nm_e (nm_e (nm_e (nm_e ⟨7, ?_⟩))))
    refine tx_best58 (u := bt U) (w := w) hS hx hT hb (fun r pa' cl' nl' rl' pl' => H r x pa' cl' nl' rl' pl') 6 0 pa _ _ _ _ 7 (by omega) (by omega) ?_ (fun i hi => absurd hi (Nat.not_lt_zero _))
    refine ⟨fun c hc => ?_, pk_us, pk_us, pk_us⟩
    show bt (upd cl 0 (U &&& (((1 : Int32) <<< (nI T &&& 31)) ^^^ (-1))) 0) c = _
    rw [pk_us, tb_clr _ (by omega) hc]
    simp
  · refine br_t ((tb_has0 _ (by omega)).mpr (by simpa using hb)) ?_
    exact H none aX pa cl nl rl pl (Or.inl ⟨rfl, fun k _ => tp_F_T hb k []⟩) (fun q hq => nomatch hq)
end
/-- the best path to T within the set U -/
def tp_B (D : tp_D) (U : Int32) (T : Nat) : Option (List Nat) := tp_best (tp_at T (tp_E D (bt U) 6 []))
/-- a path to T within U all of whose certificates have policy p -/
def tp_Q (D : tp_D) (U : Int32) (T p : Nat) : Bool := (tp_at T (tp_E D (bt U) 6 [])).any (fun q => bt (tp_P D 15 q) p)
/-- o stands on all paths to T within U -/
def tp_C (D : tp_D) (U : Int32) (T o : Nat) : Bool := (tp_at T (tp_E D (bt U) 6 [])).all (fun q => decide (o ∈ q.tail))
theorem tp_B_le (D : tp_D) (U : Int32) (T : Nat) : tp_ln (tp_B D U T) ≤ 6 := by
  unfold tp_B
  cases h : tp_best (tp_at T (tp_E D (bt U) 6 [])) with
  | none => exact Nat.zero_le _
  | some q => exact (tp_len_at (tp_best_mem _ _ h)).2
theorem tp_X_ln {D : tp_D} {u : Nat → Bool} {T : Nat} {w : Int32} {r : Option (List Nat)} (h : tp_X D u T w r) : tp_ln r ≤ 6 ∧ (tp_ln r = 0 ↔ r = none) := by
  rcases h with ⟨h1, h2⟩ | ⟨k, q, t, hk, h1, h2, h3⟩
  · rw [h1]
    exact ⟨Nat.zero_le _, fun _ => rfl, fun _ => rfl⟩
  · have hq : q.length = k + 1 := by
      have := tp_F_len D u T w k [] q (by rw [h2]; exact List.mem_cons_self)
      rw [List.length_nil] at this
      omega
    rw [h1]
    refine ⟨by rw [tp_ln]; omega, fun z => ?_, fun z => nomatch z⟩
    rw [tp_ln] at z
    omega
theorem tp_Q_X {D : tp_D} {U : Int32} {T p : Nat} {r : Option (List Nat)} (hT : T < tp_m D) (hp : p < 4) (h : tp_X D (bt U) T ((1 : Int32) <<< (nI p &&& 31)) r) : r = none ↔ ¬ tp_Q D U T p = true := by
  rw [tp_X_none hT (u := bt U) (fun c hc => hc) (tb_w15 p hp) h]
  unfold tp_Q
  rw [List.any_eq_true]
  constructor
  · intro g ⟨q, q1, q2⟩
    refine g q q1 (tp_g_iff.mpr ⟨?_, ?_⟩)
    · obtain ⟨x, s, e1, e2, e3, e4, e5, e6, e7, e8, e9, e10⟩ := tp_E_mem D (bt U) 6 [] q (tp_mem_at.mp q1).1
      intro y hy
      rw [e1] at hy
      rcases List.mem_cons.mp hy with hy | hy
      · rw [hy]; exact e6
      · exact e9 (fun y hy => absurd hy (List.not_mem_nil)) y hy
    · rw [tp_P_w D (tb_w15 p hp), tb_w _ (by omega), q2]
      intro z; cases z
  · intro g q q1 q2
    have h2 := (tp_g_iff.mp q2).2
    rw [tp_P_w D (tb_w15 p hp), tb_w _ (by omega)] at h2
    exact g ⟨q, q1, by simpa using h2⟩
theorem tp_C_X {D : tp_D} {U : Int32} {T o : Nat} {r : Option (List Nat)} (hT : T < tp_m D) (h12 : tp_m D ≤ 12) (ho : o < tp_m D) (hoT : ¬ o = T) (h : tp_X D (bt (U &&& (((1 : Int32) <<< (nI o &&& 31)) ^^^ (-1)))) T 15 r) : r = none ↔ tp_C D U T o = true := by
  have hu : ∀ c, bt (U &&& (((1 : Int32) <<< (nI o &&& 31)) ^^^ (-1))) c = true → bt U c = true := by
    intro c hc
    rw [b_and, Bool.and_eq_true] at hc
    exact hc.1
  rw [tp_X_none hT (u := bt U) hu (by decide) h]
  unfold tp_C
  rw [List.all_eq_true]
  constructor
  · intro g q q1
    obtain ⟨x, s, e1, e2, e3, e4, e5, e6, e7, e8, e9, e10⟩ := tp_E_mem D (bt U) 6 [] q (tp_mem_at.mp q1).1
    have hx : x = T := by
      have h3 := (tp_mem_at.mp q1).2
      rw [e1] at h3
      exact Option.some.inj h3
    apply decide_eq_true
    apply Classical.byContradiction
    intro hn
    refine g q q1 (tp_g_iff.mpr ⟨?_, e8⟩)
    intro y hy
    have hym : y < tp_m D ∧ bt U y = true := by
      rw [e1] at hy
      rcases List.mem_cons.mp hy with hy | hy
      · rw [hy]; exact ⟨e7, e6⟩
      · exact ⟨e10 (fun y hy => absurd hy (List.not_mem_nil)) y hy, e9 (fun y hy => absurd hy (List.not_mem_nil)) y hy⟩
    rw [tb_clr _ (by omega) (by omega), hym.2]
    have hyo : ¬ y = o := by
      intro z
      rw [e1] at hy hn
      rcases List.mem_cons.mp hy with hy | hy
      · exact hoT (z.symm.trans (hy.trans hx))
      · rw [z] at hy
        exact hn hy
    simp [hyo]
  · intro g q q1 q2
    have h3 := of_decide_eq_true (g q q1)
    obtain ⟨x, s, e1, e2, e3, e4, e5, e6, e7, e8, e9, e10⟩ := tp_E_mem D (bt U) 6 [] q (tp_mem_at.mp q1).1
    have h4 := (tp_g_iff.mp q2).1 o (by rw [e1] at h3 ⊢; exact List.mem_cons_of_mem _ h3)
    rw [tb_clr _ (by omega) (by omega)] at h4
    simp at h4
/-- good, not revoked, not held at t -/
def tx_ok (gf gt rv he : Nat → Int32) (t : Int32) (c : Nat) : Bool := !decide (t < gf c) && (!decide (gt c < t) && (!decide (rv c ≤ t) && decide (he c = 0)))
section
variable {D : tp_D} {u : Nat → Bool} {T : Nat} {w : Int32} {aX : Int32} {sf gf gt au li rv he aT aE pa cl nl rl pl : Nat → Int32}
theorem tx_us4 {post : Int32 → Prop} {t : Int32} (h12 : tp_m D ≤ 12) (h : post (tp_mk (tx_ok gf gt rv he t) (tp_m D))) : ∀ j c n, c + j = tp_m D → j < n → wX_usableAt_4 post t (nI (tp_m D)) aX (tp_ie D) (tp_se D) sf gf gt au li (tp_al D) (tp_ba D) (tp_po D) rv he aT aE pa cl nl rl pl n (tp_mk (tx_ok gf gt rv he t) c) (nI c) := by
  intro j
  induction j with
  | zero =>
    intro c n hj hn
    obtain ⟨n, rfl⟩ : ∃ k, n = k + 1 := ⟨n - 1, by omega⟩
    have e : c = tp_m D := by omega
    rw [e]
    exact br_t (nI_le (by omega) (by omega)) h
  | succ j ih =>
    intro c n hj hn
    obtain ⟨n, rfl⟩ : ∃ k, n = k + 1 := ⟨n - 1, by omega⟩
    have e2 : (nI c).toNatClampNeg = c := nI_clamp (by omega)
    have v : vp_in (nI c) 12 := vp_in_nI (by omega) (by omega)
    have hi := ih (c + 1) n (by omega) (by omega)
    rw [tp_mk] at hi
    have hno : ¬ tx_ok gf gt rv he t c = true → wX_usableAt_4 post t (nI (tp_m D)) aX (tp_ie D) (tp_se D) sf gf gt au li (tp_al D) (tp_ba D) (tp_po D) rv he aT aE pa cl nl rl pl n (tp_mk (tx_ok gf gt rv he t) c) (nI (c + 1)) := by
      intro z
      rw [if_neg z] at hi
      exact hi
    rw [wX_usableAt_4]
    dsimp only
    rw [e2]
    refine br_f (nI_ge (by omega) (by omega)) ⟨v, ?_⟩
    by_cases h1 : t < gf c
    · exact br_t h1 (nm_r (nI_1 c) (hno (by unfold tx_ok; rw [decide_eq_true h1]; simp)))
    refine br_f h1 ⟨v, ?_⟩
    by_cases h2 : gt c < t
    · exact br_t h2 (nm_r (nI_1 c) (hno (by unfold tx_ok; rw [decide_eq_true h2]; simp)))
    refine br_f h2 ⟨v, ?_⟩
    by_cases h3 : rv c ≤ t
    · exact br_t h3 (nm_r (nI_1 c) (hno (by unfold tx_ok; rw [decide_eq_true h3]; simp)))
    refine br_f h3 ⟨v, ?_⟩
    by_cases h4 : he c = 0
    · refine br_t h4 (nm_e (nm_r (nI_1 c) ?_))
      rw [if_pos (by unfold tx_ok; rw [decide_eq_false h1, decide_eq_false h2, decide_eq_false h3, decide_eq_true h4]; rfl)] at hi
      exact hi
    · exact br_f h4 (nm_r (nI_1 c) (hno (by unfold tx_ok; rw [decide_eq_false h4]; simp)))
theorem tx_us {post : Int32 → Prop} {t : Int32} (h12 : tp_m D ≤ 12) (h : post (tp_mk (tx_ok gf gt rv he t) (tp_m D))) : wpX_usableAt post ((nI (tp_m D)), aX, (tp_ie D), (tp_se D), sf, gf, gt, au, li, (tp_al D), (tp_ba D), (tp_po D), rv, he, aT, aE, pa, cl, nl, rl, pl) t :=
  ⟨tp_m D + 1, tx_us4 h12 h (tp_m D) 0 _ (by omega) (by omega)⟩
theorem tx_best15 {post : Int32 → SX → Prop} {U : Int32} (hS : tx_S D sf au li aT aE) (hT : T < tp_m D) (H : ∀ aX' pa' cl' nl' rl' pl', (∀ q, tp_B D U T = some q → tp_st pa' q) → post (nI (tp_ln (tp_B D U T))) ((nI (tp_m D)), aX', (tp_ie D), (tp_se D), sf, gf, gt, au, li, (tp_al D), (tp_ba D), (tp_po D), rv, he, aT, aE, pa', cl', nl', rl', pl')) : wpX_bestLength post ((nI (tp_m D)), aX, (tp_ie D), (tp_se D), sf, gf, gt, au, li, (tp_al D), (tp_ba D), (tp_po D), rv, he, aT, aE, pa, cl, nl, rl, pl) (nI T) U 15 := by
  refine tx_best hS hT (fun r aX' pa' cl' nl' rl' pl' hX hq => ?_)
  have e : r = tp_B D U T := tp_X_best hT hX
  rw [e] at hq ⊢
  exact H aX' pa' cl' nl' rl' pl' hq
theorem tx_bestQ {post : Int32 → SX → Prop} {U : Int32} {p : Nat} (hS : tx_S D sf au li aT aE) (hT : T < tp_m D) (hp : p < 4) (H : ∀ r aX' pa' cl' nl' rl' pl', r ≤ 6 → (r = 0 ↔ ¬ tp_Q D U T p = true) → post (nI r) ((nI (tp_m D)), aX', (tp_ie D), (tp_se D), sf, gf, gt, au, li, (tp_al D), (tp_ba D), (tp_po D), rv, he, aT, aE, pa', cl', nl', rl', pl')) : wpX_bestLength post ((nI (tp_m D)), aX, (tp_ie D), (tp_se D), sf, gf, gt, au, li, (tp_al D), (tp_ba D), (tp_po D), rv, he, aT, aE, pa, cl, nl, rl, pl) (nI T) U ((1 : Int32) <<< (nI p &&& 31)) := by
  refine tx_best hS hT (fun r aX' pa' cl' nl' rl' pl' hX hq => ?_)
  have h := tp_X_ln hX
  exact H (tp_ln r) aX' pa' cl' nl' rl' pl' h.1 (h.2.trans (tp_Q_X hT hp hX))
theorem tx_bestC {post : Int32 → SX → Prop} {U : Int32} {o : Nat} (hS : tx_S D sf au li aT aE) (hT : T < tp_m D) (ho : o < tp_m D) (hoT : ¬ o = T) (H : ∀ r aX' pa' cl' nl' rl' pl', r ≤ 6 → (r = 0 ↔ tp_C D U T o = true) → post (nI r) ((nI (tp_m D)), aX', (tp_ie D), (tp_se D), sf, gf, gt, au, li, (tp_al D), (tp_ba D), (tp_po D), rv, he, aT, aE, pa', cl', nl', rl', pl')) : wpX_bestLength post ((nI (tp_m D)), aX, (tp_ie D), (tp_se D), sf, gf, gt, au, li, (tp_al D), (tp_ba D), (tp_po D), rv, he, aT, aE, pa, cl, nl, rl, pl) (nI T) (U &&& (((1 : Int32) <<< (nI o &&& 31)) ^^^ (-1))) 15 := by
  refine tx_best hS hT (fun r aX' pa' cl' nl' rl' pl' hX hq => ?_)
  have h := tp_X_ln hX
  exact H (tp_ln r) aX' pa' cl' nl' rl' pl' h.1 (h.2.trans (tp_C_X hT hS.1 ho hoT hX))
end
end
section
/-! the loops of the component's questions -/
def tp_tr (D : tp_D) (U : Int32) (c : Nat) : Bool := decide (0 < tp_ln (tp_B D U c))
section
variable {D : tp_D} {sf gf gt au li rv he aT aE : Nat → Int32}
theorem tx_count4 {post : Int32 → SX → Prop} {U : Int32} (hS : tx_S D sf au li aT aE) (H : ∀ aX pa cl nl rl pl, post (nI (tp_cn (tp_tr D U) (tp_m D))) ((nI (tp_m D)), aX, (tp_ie D), (tp_se D), sf, gf, gt, au, li, (tp_al D), (tp_ba D), (tp_po D), rv, he, aT, aE, pa, cl, nl, rl, pl)) : ∀ (j c : Nat) (aX : Int32) (pa cl nl rl pl : Nat → Int32) (n : Nat), c + j = tp_m D → j < n → wX_countTrusted_4 post U n (nI (tp_cn (tp_tr D U) c)) (nI c) (nI (tp_m D)) aX (tp_ie D) (tp_se D) sf gf gt au li (tp_al D) (tp_ba D) (tp_po D) rv he aT aE pa cl nl rl pl := by
  have h12 := hS.1
  intro j
  induction j with
  | zero =>
    intro c aX pa cl nl rl pl n hj hn
    obtain ⟨n, rfl⟩ : ∃ k, n = k + 1 := ⟨n - 1, by omega⟩
    have e : c = tp_m D := by omega
    rw [e]
    exact br_t (nI_le (by omega) (by omega)) (H aX pa cl nl rl pl)
  | succ j ih =>
    intro c aX pa cl nl rl pl n hj hn
    obtain ⟨n, rfl⟩ : ∃ k, n = k + 1 := ⟨n - 1, by omega⟩
    rw [wX_countTrusted_4]
    dsimp only
    refine br_f (nI_ge (by omega) (by omega)) ?_
    refine tx_best15 hS (by omega) (fun aX' pa' cl' nl' rl' pl' _ => ?_)
    have hi := ih (c + 1) aX' pa' cl' nl' rl' pl' n (by omega) (by omega)
    have h6 := tp_B_le D U c
    rw [tp_cn] at hi
    by_cases h0 : 0 < tp_ln (tp_B D U c)
    · have ht : tp_tr D U c = true := decide_eq_true h0
      rw [if_pos ht] at hi
      exact br_f (nI_nle h0 (by omega)) (nm_r (nI_1 _) (nm_r (nI_1 c) hi))
    · have ht : ¬ tp_tr D U c = true := fun z => h0 (of_decide_eq_true z)
      rw [if_neg ht] at hi
      exact br_t (nI_le (b := 0) (by omega) (by omega)) (nm_r (nI_1 c) hi)
theorem tx_count {post : Int32 → SX → Prop} {U : Int32} {aX : Int32} {pa cl nl rl pl : Nat → Int32} (hS : tx_S D sf au li aT aE) (H : ∀ aX pa cl nl rl pl, post (nI (tp_cn (tp_tr D U) (tp_m D))) ((nI (tp_m D)), aX, (tp_ie D), (tp_se D), sf, gf, gt, au, li, (tp_al D), (tp_ba D), (tp_po D), rv, he, aT, aE, pa, cl, nl, rl, pl)) : wpX_countTrusted post ((nI (tp_m D)), aX, (tp_ie D), (tp_se D), sf, gf, gt, au, li, (tp_al D), (tp_ba D), (tp_po D), rv, he, aT, aE, pa, cl, nl, rl, pl) U :=
  ⟨tp_m D + 1, tx_count4 hS H (tp_m D) 0 aX pa cl nl rl pl _ (by omega) (by omega)⟩
theorem tx_pol30 {post : Int32 → SX → Prop} {U : Int32} {T : Nat} (hS : tx_S D sf au li aT aE) (hT : T < tp_m D) (H : ∀ aX pa cl nl rl pl, post (tp_mk (tp_Q D U T) 4) ((nI (tp_m D)), aX, (tp_ie D), (tp_se D), sf, gf, gt, au, li, (tp_al D), (tp_ba D), (tp_po D), rv, he, aT, aE, pa, cl, nl, rl, pl)) : ∀ (j p : Nat) (aX : Int32) (pa cl nl rl pl : Nat → Int32) (n : Nat), p + j = 4 → j < n → wX_policies_30 post (nI T) U n (tp_mk (tp_Q D U T) p) (nI p) (nI (tp_m D)) aX (tp_ie D) (tp_se D) sf gf gt au li (tp_al D) (tp_ba D) (tp_po D) rv he aT aE pa cl nl rl pl := by
  intro j
  induction j with
  | zero =>
    intro c aX pa cl nl rl pl n hj hn
    obtain ⟨n, rfl⟩ : ∃ k, n = k + 1 := ⟨n - 1, by omega⟩
    have e : c = 4 := by omega
    rw [e]
    exact br_t (nI_le (a := 4) (by omega) (by omega)) (H aX pa cl nl rl pl)
  | succ j ih =>
    intro c aX pa cl nl rl pl n hj hn
    obtain ⟨n, rfl⟩ : ∃ k, n = k + 1 := ⟨n - 1, by omega⟩
    rw [wX_policies_30]
    dsimp only
    refine br_f (nI_ge (b := 4) (by omega) (by omega)) ?_
    refine tx_bestQ hS hT (by omega) (fun r aX' pa' cl' nl' rl' pl' h6 hr => ?_)
    have hi := ih (c + 1) aX' pa' cl' nl' rl' pl' n (by omega) (by omega)
    rw [tp_mk] at hi
    by_cases h0 : tp_Q D U T c = true
    · rw [if_pos h0] at hi
      have h1 : 0 < r := Nat.pos_of_ne_zero (fun z => (hr.mp z) h0)
      exact br_f (nI_nle h1 (by omega)) (nm_e (nm_r (nI_1 c) hi))
    · rw [if_neg h0] at hi
      have h1 : r = 0 := hr.mpr h0
      rw [h1]
      exact br_t (nI_le (b := 0) (by omega) (by omega)) (nm_r (nI_1 c) hi)
def tp_kf (D : tp_D) (U : Int32) (v : Int32) (p : Nat) (c : Nat) : Bool := decide (tp_se D c / 10 = v) && tp_Q D U c p
def tp_kx (D : tp_D) (c : Nat) : Int32 := tp_se D c - tp_se D c / 10 * 10
theorem tx_keys42 {post : Int32 → SX → Prop} {U v : Int32} {p : Nat} (hS : tx_S D sf au li aT aE) (hp : p < 4) (H : ∀ aX pa cl nl rl pl, post (tp_ks (tp_kf D U v p) (tp_kx D) (tp_m D)) ((nI (tp_m D)), aX, (tp_ie D), (tp_se D), sf, gf, gt, au, li, (tp_al D), (tp_ba D), (tp_po D), rv, he, aT, aE, pa, cl, nl, rl, pl)) : ∀ (j c : Nat) (aX : Int32) (pa cl nl rl pl : Nat → Int32) (n : Nat), c + j = tp_m D → j < n → wX_keysOf_42 post v (nI p) U n (tp_ks (tp_kf D U v p) (tp_kx D) c) (nI c) (nI (tp_m D)) aX (tp_ie D) (tp_se D) sf gf gt au li (tp_al D) (tp_ba D) (tp_po D) rv he aT aE pa cl nl rl pl := by
  have h12 := hS.1
  intro j
  induction j with
  | zero =>
    intro c aX pa cl nl rl pl n hj hn
    obtain ⟨n, rfl⟩ : ∃ k, n = k + 1 := ⟨n - 1, by omega⟩
    have e : c = tp_m D := by omega
    rw [e]
    exact br_t (nI_le (by omega) (by omega)) (H aX pa cl nl rl pl)
  | succ j ih =>
    intro c aX pa cl nl rl pl n hj hn
    obtain ⟨n, rfl⟩ : ∃ k, n = k + 1 := ⟨n - 1, by omega⟩
    have e2 : (nI c).toNatClampNeg = c := nI_clamp (by omega)
    have vv : vp_in (nI c) 12 := vp_in_nI (by omega) (by omega)
    rw [wX_keysOf_42]
    dsimp only
    rw [e2]
    refine br_f (nI_ge (by omega) (by omega)) ⟨vv, by decide, ?_⟩
    by_cases hv : tp_se D c / 10 = v
    · refine br_t hv ?_
      refine tx_bestQ hS (by omega) hp (fun r aX' pa' cl' nl' rl' pl' h6 hr => ?_)
      have hi := ih (c + 1) aX' pa' cl' nl' rl' pl' n (by omega) (by omega)
      rw [tp_ks] at hi
      by_cases h0 : tp_Q D U c p = true
      · rw [if_pos (by unfold tp_kf; rw [decide_eq_true hv, h0]; rfl)] at hi
        have h1 : 0 < r := Nat.pos_of_ne_zero (fun z => (hr.mp z) h0)
        refine br_f (nI_nle h1 (by omega)) ?_
        exact ⟨vv, by decide, nm_e (nm_r (nI_1 c) hi)⟩
      · rw [if_neg (by unfold tp_kf; rw [Bool.and_eq_true]; exact fun z => h0 z.2)] at hi
        have h1 : r = 0 := hr.mpr h0
        rw [h1]
        exact br_t (nI_le (b := 0) (by omega) (by omega)) (nm_r (nI_1 c) hi)
    · have hi := ih (c + 1) aX pa cl nl rl pl n (by omega) (by omega)
      rw [tp_ks, if_neg (by unfold tp_kf; rw [Bool.and_eq_true]; exact fun z => hv (of_decide_eq_true z.1))] at hi
      exact br_f hv (nm_r (nI_1 c) hi)
def tp_ug (D : tp_D) (V : Nat → Int32) (T : Nat) (t : Nat) : Bool := decide (tp_ln (tp_B D (V t) T) = 0)
theorem tx_until24 {post : Int32 → SX → Prop} {T : Nat} {V : Nat → Int32} (hS : tx_S D sf au li aT aE) (hT : T < tp_m D) (hV : ∀ t, t ≤ 100 → V t = tp_mk (tx_ok gf gt rv he (nI t)) (tp_m D)) : ∀ (j t : Nat) (r : Int32) (aX : Int32) (pa cl nl rl pl : Nat → Int32) (n : Nat), t + j = 101 → j < n → (∀ aX pa cl nl rl pl, post (tp_un (tp_ug D V T) j t r) ((nI (tp_m D)), aX, (tp_ie D), (tp_se D), sf, gf, gt, au, li, (tp_al D), (tp_ba D), (tp_po D), rv, he, aT, aE, pa, cl, nl, rl, pl)) → wX_until_24 post (nI T) n r (nI t) (nI (tp_m D)) aX (tp_ie D) (tp_se D) sf gf gt au li (tp_al D) (tp_ba D) (tp_po D) rv he aT aE pa cl nl rl pl := by
  have h12 := hS.1
  intro j
  induction j with
  | zero =>
    intro t r aX pa cl nl rl pl n hj hn H
    obtain ⟨n, rfl⟩ : ∃ k, n = k + 1 := ⟨n - 1, by omega⟩
    exact br_t (nI_lt (a := 100) (by omega) (by omega)) (H aX pa cl nl rl pl)
  | succ j ih =>
    intro t r aX pa cl nl rl pl n hj hn H
    obtain ⟨n, rfl⟩ : ∃ k, n = k + 1 := ⟨n - 1, by omega⟩
    rw [wX_until_24]
    dsimp only
    refine br_f (nI_nlt (a := 100) (by omega) (by omega)) ?_
    refine tx_us h12 ?_
    rw [← hV t (by omega)]
    refine tx_best15 hS hT (fun aX' pa' cl' nl' rl' pl' _ => ?_)
    have h6 := tp_B_le D (V t) T
    rw [tp_un] at H
    by_cases h0 : tp_ln (tp_B D (V t) T) = 0
    · have ht : tp_ug D V T t = true := decide_eq_true h0
      rw [if_pos ht] at H
      exact br_t (by rw [h0]; rfl) (H aX' pa' cl' nl' rl' pl')
    · have ht : ¬ tp_ug D V T t = true := fun z => h0 (of_decide_eq_true z)
      rw [if_neg ht] at H
      exact br_f (nI_ne0 (by omega) (by omega)) (nm_r (nI_1 t) (ih (t + 1) (nI t) aX' pa' cl' nl' rl' pl' n (by omega) (by omega) H))
def tp_nf (D : tp_D) (U : Int32) (T : Nat) (o : Nat) : Bool := !decide (o = T) && tp_C D U T o
theorem tx_narrow41 {post : Int32 → SX → Prop} {U : Int32} {T : Nat} (hS : tx_S D sf au li aT aE) (hT : T < tp_m D) : ∀ (j c : Nat) (aX : Int32) (pa cl nl rl pl : Nat → Int32) (n : Nat), c + j = tp_m D → j < n → (∀ aX pa cl nl rl pl, post (tp_fs (tp_nf D U T) j c) ((nI (tp_m D)), aX, (tp_ie D), (tp_se D), sf, gf, gt, au, li, (tp_al D), (tp_ba D), (tp_po D), rv, he, aT, aE, pa, cl, nl, rl, pl)) → wX_narrow_41 post (nI T) U n (nI c) (nI (tp_m D)) aX (tp_ie D) (tp_se D) sf gf gt au li (tp_al D) (tp_ba D) (tp_po D) rv he aT aE pa cl nl rl pl := by
  have h12 := hS.1
  intro j
  induction j with
  | zero =>
    intro c aX pa cl nl rl pl n hj hn H
    obtain ⟨n, rfl⟩ : ∃ k, n = k + 1 := ⟨n - 1, by omega⟩
    exact br_t (nI_le (by omega) (by omega)) (H aX pa cl nl rl pl)
  | succ j ih =>
    intro c aX pa cl nl rl pl n hj hn H
    obtain ⟨n, rfl⟩ : ∃ k, n = k + 1 := ⟨n - 1, by omega⟩
    rw [wX_narrow_41]
    dsimp only
    refine br_f (nI_ge (by omega) (by omega)) (nm_e ?_)
    rw [tp_fs] at H
    by_cases hc : c = T
    · rw [if_neg (by unfold tp_nf; rw [decide_eq_true hc]; simp)] at H
      exact br_t (by rw [hc]) (nm_r (nI_1 c) (ih (c + 1) aX pa cl nl rl pl n (by omega) (by omega) H))
    · refine br_f (fun z => hc ((nI_eq (by omega) (by omega)).mp z)) ?_
      refine tx_bestC hS hT (by omega) hc (fun r aX' pa' cl' nl' rl' pl' h6 hr => ?_)
      by_cases h0 : tp_C D U T c = true
      · rw [if_pos (by unfold tp_nf; rw [decide_eq_false hc, h0]; rfl)] at H
        have h1 : r = 0 := hr.mpr h0
        rw [h1]
        exact br_t rfl (H aX' pa' cl' nl' rl' pl')
      · rw [if_neg (by unfold tp_nf; rw [Bool.and_eq_true]; exact fun z => h0 z.2)] at H
        have h1 : 0 < r := Nat.pos_of_ne_zero (fun z => h0 (hr.mp z))
        exact br_f (nI_ne0 h1 (by omega)) (nm_r (nI_1 c) (ih (c + 1) aX' pa' cl' nl' rl' pl' n (by omega) (by omega) H))
end
end
section
/-! the reference's small methods, at a node l of its search -/
theorem ty_5 (c : Nat) : (5 : Int32) * nI c = nI (5 * c) := pk_mul 5 c
theorem ty_5k (c k : Nat) {x : Int32} (hx : x = nI k) : (5 : Int32) * nI c + x = nI (5 * c + k) := by rw [ty_5, hx, nI_add]
theorem ty_6k (c k : Nat) : (6 : Int32) * nI c + nI k = nI (6 * c + k) := by
  have h : (6 : Int32) * nI c = nI (6 * c) := pk_mul 6 c
  rw [h, nI_add]
def ty_S (D : tp_D) (is su ik sk te an : Nat → Int32) : Prop :=
  tp_m D ≤ 12 ∧ (∀ c, c < tp_m D → ((10 : Int32) * is c + ik c = tp_ie D c ∧ (10 : Int32) * su c + sk c = tp_se D c ∧ tp_se D c / 10 = su c ∧ (is c = su c ↔ tp_sf D c = true) ∧ (te (5 * c) = 0 ↔ ¬ tp_au D c = true) ∧ te (5 * c + 1) = nI (tp_lm D c) ∧ tp_lm D c ≤ 4 ∧ te (5 * c + 2) = tp_al D c ∧ te (5 * c + 3) = tp_ba D c ∧ te (5 * c + 4) = tp_po D c ∧ (tp_an D c = true ↔ (tp_ie D c = an 0 ∨ tp_ie D c = an 1 ∨ tp_ie D c = an 2))))
section
variable {D : tp_D} {vY : Int32} {is su ik sk fr tt te re hY an le st fo co ls ne na pY ro : Nat → Int32} {l : List Nat} {c : Nat}
theorem ty_has {post : Int32 → Prop} {x y : Int32} (h1 : ((x >>> (y &&& 31)) &&& 1) = 1 → post 1) (h0 : ¬ ((x >>> (y &&& 31)) &&& 1) = 1 → post 0) : wpY_has post ((nI (tp_m D)), vY, is, su, ik, sk, fr, tt, te, re, hY, an, le, st, fo, co, ls, ne, na, pY, ro) x y := br_c h1 h0
theorem ty_follows {post : Int32 → Prop} (hS : ty_S D is su ik sk te an) (hl : l.length ≤ 5) (hc : c < tp_m D) (hst : tp_st ls l) (hm : ∀ y, y ∈ l → y < tp_m D) (h1 : tp_fo D l c = true → post 1) (h0 : ¬ tp_fo D l c = true → post 0) : wpY_follows post ((nI (tp_m D)), vY, is, su, ik, sk, fr, tt, te, re, hY, an, le, st, fo, co, ls, ne, na, pY, ro) (nI c) (nI l.length) := by
  have h12 := hS.1
  obtain ⟨k1, k2, k3, k4, k5, k6, k7, k8, k9, k10, k11⟩ := hS.2 c hc
  have e2 : (nI c).toNatClampNeg = c := nI_clamp (by omega)
  have v : vp_in (nI c) 12 := vp_in_nI (by omega) (by omega)
  unfold wpY_follows
  dsimp only
  rw [e2]
  refine ⟨v, v, nm_r k1 ?_⟩
  cases l with
  | nil =>
    refine br_t nI_0 ?_
    have e : tp_fo D [] c = tp_an D c := rfl
    rw [e, k11] at h1 h0
    by_cases g0 : tp_ie D c = an 0
    · exact br_t g0 (h1 (Or.inl g0))
    refine br_f g0 ?_
    by_cases g1 : tp_ie D c = an 1
    · exact br_t g1 (h1 (Or.inr (Or.inl g1)))
    refine br_f g1 ?_
    by_cases g2 : tp_ie D c = an 2
    · exact br_t g2 (h1 (Or.inr (Or.inr g2)))
    refine br_f g2 (h0 ?_)
    rintro (z | z | z)
    · exact g0 z
    · exact g1 z
    · exact g2 z
  | cons b l =>
    rw [List.length_cons] at hl
    have hb : b < tp_m D := hm b List.mem_cons_self
    obtain ⟨b1, b2, _⟩ := hS.2 b hb
    have e3 : (nI (b :: l).length - 1) = nI l.length := nI_pred l.length
    have e4 : (nI l.length).toNatClampNeg = l.length := nI_clamp (by omega)
    have e5 : (nI b).toNatClampNeg = b := nI_clamp (by omega)
    have vb : vp_in (nI b) 12 := vp_in_nI (by omega) (by omega)
    rw [e3, e4]
    refine br_f (nI_ne0 (n := l.length + 1) (by omega) (by omega)) ⟨vp_in_nI (by omega) (by omega), nm_r hst.1 ?_⟩
    rw [e5, b2]
    refine ⟨vb, vb, ?_⟩
    by_cases g : tp_ie D c = tp_se D b
    · exact br_t g (h1 (decide_eq_true g.symm))
    · exact br_f g (h0 (fun z => g (of_decide_eq_true z).symm))
theorem ty_used2 {post : Int32 → Prop} (hl : l.length ≤ 5) (hc : c < 12) (hst : tp_st ls l) (hm : ∀ y, y ∈ l → y < 12) (h1 : c ∈ l → post 1) (h0 : ¬ c ∈ l → post 0) : ∀ j i n, i + j = l.length → j < n → (∀ e, e < i → ¬ ls e = nI c) → wY_isUsed_2 post (nI c) (nI l.length) (nI (tp_m D)) vY is su ik sk fr tt te re hY an le st fo co ls ne na pY ro n (nI i) := by
  intro j
  induction j with
  | zero =>
    intro i n hj hn hi
    obtain ⟨n, rfl⟩ : ∃ k, n = k + 1 := ⟨n - 1, by omega⟩
    refine br_t (nI_le (by omega) (by omega)) (h0 (fun z => ?_))
    obtain ⟨e, he, he2⟩ := tp_st_mem l hst c z
    exact hi e (by omega) he2
  | succ j ih =>
    intro i n hj hn hi
    obtain ⟨n, rfl⟩ : ∃ k, n = k + 1 := ⟨n - 1, by omega⟩
    have e2 : (nI i).toNatClampNeg = i := nI_clamp (by omega)
    rw [wY_isUsed_2]
    dsimp only
    rw [e2]
    refine br_f (nI_ge (by omega) (by omega)) ⟨vp_in_nI (by omega) (by omega), ?_⟩
    by_cases g : ls i = nI c
    · refine br_t g (h1 ?_)
      obtain ⟨d, hd, hd2⟩ := tp_st_get l hst i (by omega)
      have hd3 := hm d hd
      rw [hd2, nI_eq (by omega) (by omega)] at g
      rw [← g]
      exact hd
    · refine br_f g (nm_r (nI_1 i) (ih (i + 1) n (by omega) (by omega) ?_))
      intro e he
      by_cases z : e = i
      · rw [z]; exact g
      · exact hi e (by omega)
theorem ty_used {post : Int32 → Prop} (hl : l.length ≤ 5) (hc : c < 12) (hst : tp_st ls l) (hm : ∀ y, y ∈ l → y < 12) (h1 : c ∈ l → post 1) (h0 : ¬ c ∈ l → post 0) : wpY_isUsed post ((nI (tp_m D)), vY, is, su, ik, sk, fr, tt, te, re, hY, an, le, st, fo, co, ls, ne, na, pY, ro) (nI c) (nI l.length) :=
  ⟨l.length + 1, ty_used2 hl hc hst hm h1 h0 l.length 0 _ (by omega) (by omega) (fun e he => absurd he (Nat.not_lt_zero _))⟩
end
/-! end: one event more -/
def ty_R (D : tp_D) (ev : List (List Nat)) (le st fo co : Nat → Int32) : Prop := ∀ T, T < 12 → tp_Z D ev le fo co st T
section
variable {D : tp_D} {vY : Int32} {is su ik sk fr tt te re hY an le fo co ls ne na pY ro : Nat → Int32} {l : List Nat} {c : Nat}
theorem ty_end150 {post : SY → Prop} {st0 : Nat → Int32} (hl : l.length ≤ 5) (hc : c < 12) (H : ∀ st, (∀ e, e < l.length → st (6 * c + e) = ls e) → st (6 * c + l.length) = nI c → (∀ x, (x < 6 * c ∨ 6 * c + 6 ≤ x) → st x = st0 x) → post ((nI (tp_m D)), vY, is, su, ik, sk, fr, tt, te, re, hY, an, le, st, fo, co, ls, ne, na, pY, ro)) : ∀ (j i : Nat) (st : Nat → Int32) (n : Nat), i + j = l.length → j < n → (∀ e, e < i → st (6 * c + e) = ls e) → (∀ x, (x < 6 * c ∨ 6 * c + 6 ≤ x) → st x = st0 x) → wY_end_150 post (nI c) (nI l.length) (nI (tp_m D)) vY n (nI i) is su ik sk fr tt te re hY an le st fo co ls ne na pY ro := by
  intro j
  induction j with
  | zero =>
    intro i st n hj hn h1 h2
    obtain ⟨n, rfl⟩ : ∃ k, n = k + 1 := ⟨n - 1, by omega⟩
    have e3 : (nI (6 * c + l.length)).toNatClampNeg = 6 * c + l.length := nI_clamp (by omega)
    rw [wY_end_150]
    dsimp only
    rw [ty_6k c l.length, e3]
    refine br_t (nI_le (by omega) (by omega)) ⟨vp_in_nI (by omega) (by omega), nm_e (H _ ?_ pk_us ?_)⟩
    · intro e he
      rw [pk_un (by omega)]
      exact h1 e (by omega)
    · intro x hx
      rw [pk_un (by omega)]
      exact h2 x hx
  | succ j ih =>
    intro i st n hj hn h1 h2
    obtain ⟨n, rfl⟩ : ∃ k, n = k + 1 := ⟨n - 1, by omega⟩
    have e2 : (nI i).toNatClampNeg = i := nI_clamp (by omega)
    have e3 : (nI (6 * c + i)).toNatClampNeg = 6 * c + i := nI_clamp (by omega)
    rw [wY_end_150]
    dsimp only
    rw [ty_6k c i, e2, e3]
    refine br_f (nI_ge (by omega) (by omega)) ⟨vp_in_nI (by omega) (by omega), vp_in_nI (by omega) (by omega), nm_e (nm_r (nI_1 i) (ih (i + 1) _ n (by omega) (by omega) ?_ ?_))⟩
    · intro e he
      by_cases z : e = i
      · rw [z]; exact pk_us
      · rw [pk_un (by omega)]
        exact h1 e (by omega)
    · intro x hx
      rw [pk_un (by omega)]
      exact h2 x hx
theorem ty_end102 {post : SY → Prop} {st : Nat → Int32} {ev : List (List Nat)} {ot z : Int32} (hl : l.length ≤ 5) (hc : c < 12) (hst : tp_st ls l) (hR : ty_R D ev le st fo co) (ho : ∀ o, o < 32 → (bt ot o = true ↔ o ∈ l)) (h4 : le c = 0 → z = ot) (h5 : ¬ le c = 0 → z = co c &&& ot) (H : ∀ le st fo co, ty_R D (ev ++ [c :: l]) le st fo co → post ((nI (tp_m D)), vY, is, su, ik, sk, fr, tt, te, re, hY, an, le, st, fo, co, ls, ne, na, pY, ro)) : wY_end_102 post (nI c) (nI l.length) (tp_P D 15 (c :: l)) z (nI c) (nI (tp_m D)) vY is su ik sk fr tt te re hY an le st fo co ls ne na pY ro := by
  have e2 : (nI c).toNatClampNeg = c := nI_clamp (by omega)
  have v : vp_in (nI c) 12 := vp_in_nI (by omega) (by omega)
  have key : ∀ le' st', ((le c = 0 ∨ nI (l.length + 1) < le c) → le' c = nI (l.length + 1) ∧ tp_st (fun i => st' (6 * c + i)) (c :: l)) → (¬ (le c = 0 ∨ nI (l.length + 1) < le c) → le' c = le c ∧ ∀ i, i < 6 → st' (6 * c + i) = st (6 * c + i)) → (∀ T, T ≠ c → le' T = le T) → (∀ x, (x < 6 * c ∨ 6 * c + 6 ≤ x) → st' x = st x) → ty_R D (ev ++ [c :: l]) le' st' (upd fo c (fo c ||| tp_P D 15 (c :: l))) (upd co c z) := by
    intro le' st' g1 g2 g3 g4 T hT
    by_cases e : T = c
    · subst e
      exact tp_Z_eq hl (hR T hT) ho g1 g2 pk_us (fun y => pk_us.trans (h4 y)) (fun y => pk_us.trans (h5 y))
    · exact tp_Z_ne e (tp_Z_congr (hR T hT) (g3 T e) (pk_un e) (pk_un e) (fun i hi => g4 _ (by omega)))
  have h138 : (le c = 0 ∨ nI (l.length + 1) < le c) → wY_end_138 post (nI c) (nI l.length) (nI (tp_m D)) vY is su ik sk fr tt te re hY an le st (upd fo c (fo c ||| tp_P D 15 (c :: l))) (upd co c z) ls ne na pY ro := by
    intro hle
    unfold wY_end_138
    rw [nI_1 l.length, e2]
    refine ⟨v, nm_e ⟨l.length + 1, ?_⟩⟩
    refine ty_end150 (st0 := st) hl hc (fun st' s1 s2 s3 => ?_) l.length 0 st _ (by omega) (by omega) (fun e he => absurd he (Nat.not_lt_zero _)) (fun x _ => rfl)
    refine H _ _ _ _ (key _ st' (fun _ => ⟨pk_us, s2, tp_st_congr l (fun i hi => s1 i hi) hst⟩) (fun y => absurd hle y) (fun T hT => pk_un hT) s3)
  have hpost : ¬ (le c = 0 ∨ nI (l.length + 1) < le c) → post ((nI (tp_m D)), vY, is, su, ik, sk, fr, tt, te, re, hY, an, le, st, upd fo c (fo c ||| tp_P D 15 (c :: l)), upd co c z, ls, ne, na, pY, ro) := by
    intro hle
    exact H _ _ _ _ (key le st (fun y => absurd y hle) (fun _ => ⟨rfl, fun i _ => rfl⟩) (fun T _ => rfl) (fun x _ => rfl))
  unfold wY_end_102
  rw [nI_1 l.length, e2]
  refine ⟨v, nm_e ⟨v, v, nm_e ⟨v, ?_⟩⟩⟩
  by_cases g : le c = 0
  · exact br_t g (h138 (Or.inl g))
  · refine br_f g ⟨v, ?_⟩
    by_cases g2 : le c ≤ nI (l.length + 1)
    · exact br_t g2 (hpost (fun y => y.elim g (fun y2 => Int32.not_lt.mpr g2 y2)))
    · exact br_f g2 (h138 (Or.inr (Int32.not_le.mp g2)))
theorem ty_end48 {post : SY → Prop} {st : Nat → Int32} {ev : List (List Nat)} (hl : l.length ≤ 5) (hc : c < 12) (hst : tp_st ls l) (hm : ∀ y, y ∈ l → y < 12) (hR : ty_R D ev le st fo co) (H : ∀ le st fo co, ty_R D (ev ++ [c :: l]) le st fo co → post ((nI (tp_m D)), vY, is, su, ik, sk, fr, tt, te, re, hY, an, le, st, fo, co, ls, ne, na, pY, ro)) : ∀ (j i : Nat) (x : Int32) (n : Nat), i + j = l.length → j < n → (∀ o, o < 32 → (bt x o = true ↔ ∃ e, e < i ∧ ls e = nI o)) → wY_end_48 post (nI c) (nI l.length) (tp_P D 15 (c :: l)) (nI (tp_m D)) vY is su ik sk fr tt te re hY an le st fo co ls ne na pY ro n x (nI i) := by
  have e2 : (nI c).toNatClampNeg = c := nI_clamp (by omega)
  have v : vp_in (nI c) 12 := vp_in_nI (by omega) (by omega)
  intro j
  induction j with
  | zero =>
    intro i x n hj hn hx
    obtain ⟨n, rfl⟩ : ∃ k, n = k + 1 := ⟨n - 1, by omega⟩
    have ho : ∀ o, o < 32 → (bt x o = true ↔ o ∈ l) := by
      intro o h32
      rw [hx o h32]
      constructor
      · rintro ⟨e, e1, e3⟩
        obtain ⟨d, d1, d2⟩ := tp_st_get l hst e (by omega)
        have := hm d d1
        rw [d2, nI_eq (by omega) (by omega)] at e3
        rw [← e3]
        exact d1
      · intro g
        obtain ⟨e, e1, e3⟩ := tp_st_mem l hst o g
        exact ⟨e, by omega, e3⟩
    rw [wY_end_48]
    dsimp only
    rw [e2]
    refine br_t (nI_le (by omega) (by omega)) ⟨v, ?_⟩
    by_cases g : le c = 0
    · exact br_t g (ty_end102 hl hc hst hR ho (fun _ => rfl) (fun y => absurd g y) H)
    · exact br_f g ⟨v, ty_end102 hl hc hst hR ho (fun y => absurd y g) (fun _ => rfl) H⟩
  | succ j ih =>
    intro i x n hj hn hx
    obtain ⟨n, rfl⟩ : ∃ k, n = k + 1 := ⟨n - 1, by omega⟩
    have e4 : (nI i).toNatClampNeg = i := nI_clamp (by omega)
    obtain ⟨d, d1, d2⟩ := tp_st_get l hst i (by omega)
    have hd := hm d d1
    rw [wY_end_48]
    dsimp only
    rw [e4, d2]
    refine br_f (nI_ge (by omega) (by omega)) ⟨vp_in_nI (by omega) (by omega), nm_e (nm_r (nI_1 i) (ih (i + 1) _ n (by omega) (by omega) ?_))⟩
    intro o h32
    rw [tb_set _ (by omega) h32, Bool.or_eq_true, hx o h32, decide_eq_true_eq]
    constructor
    · rintro (⟨e, e1, e3⟩ | g)
      · exact ⟨e, by omega, e3⟩
      · exact ⟨i, by omega, by rw [d2, g]⟩
    · rintro ⟨e, e1, e3⟩
      by_cases z : e = i
      · rw [z, d2, nI_eq (by omega) (by omega)] at e3
        exact Or.inr e3.symm
      · exact Or.inl ⟨e, by omega, e3⟩
theorem ty_end {post : SY → Prop} {st : Nat → Int32} {ev : List (List Nat)} (hS : ty_S D is su ik sk te an) (hl : l.length ≤ 5) (hc : c < tp_m D) (hst : tp_st ls l) (hm : ∀ y, y ∈ l → y < tp_m D) (hly : tp_ly D na pY ro l) (hR : ty_R D ev le st fo co) (H : ¬ tp_P D 15 l &&& tp_po D c = 0 → tp_nm D l c = true → ∀ le st fo co, ty_R D (ev ++ [c :: l]) le st fo co → post ((nI (tp_m D)), vY, is, su, ik, sk, fr, tt, te, re, hY, an, le, st, fo, co, ls, ne, na, pY, ro)) (H0 : ¬ ((¬ tp_P D 15 l &&& tp_po D c = 0) ∧ tp_nm D l c = true) → post ((nI (tp_m D)), vY, is, su, ik, sk, fr, tt, te, re, hY, an, le, st, fo, co, ls, ne, na, pY, ro)) : wpY_end post ((nI (tp_m D)), vY, is, su, ik, sk, fr, tt, te, re, hY, an, le, st, fo, co, ls, ne, na, pY, ro) (nI c) (nI l.length) := by
  have h12 := hS.1
  obtain ⟨k1, k2, k3, k4, k5, k6, k7, k8, k9, k10, k11⟩ := hS.2 c hc
  have e1 : (nI l.length).toNatClampNeg = l.length := nI_clamp (by omega)
  have e2 : (nI c).toNatClampNeg = c := nI_clamp (by omega)
  have e3 : (nI (5 * c + 4)).toNatClampNeg = 5 * c + 4 := nI_clamp (by omega)
  have v1 : vp_in (nI l.length) 7 := vp_in_nI (by omega) (by omega)
  unfold wpY_end
  dsimp only
  rw [ty_5k c 4 (x := 4) rfl, e1, e2, e3, k10, hly.2.1, hly.1]
  refine ⟨v1, vp_in_nI (by omega) (by omega), nm_e ?_⟩
  by_cases hp : tp_P D 15 l &&& tp_po D c = 0
  · exact br_t hp (H0 (fun g => g.1 hp))
  refine br_f hp ⟨v1, vp_in_nI (by omega) (by omega), ?_⟩
  refine ty_has (fun g => ?_) (fun g => ?_)
  · rw [← k3] at g
    refine br_f (by decide) ⟨l.length + 1, ?_⟩
    refine ty_end48 hl (by omega) hst (fun y hy => Nat.lt_of_lt_of_le (hm y hy) h12) hR (H hp (decide_eq_true g)) l.length 0 0 _ (by omega) (by omega) ?_
    intro o _
    rw [b_0]
    constructor
    · intro z; cases z
    · rintro ⟨e, he, _⟩; omega
  · rw [← k3] at g
    exact br_t rfl (H0 (fun z => g (of_decide_eq_true z.2)))
end
end
section
/-! goOn, and the reference's search -/
section
variable {D : tp_D} {vY : Int32} {is su ik sk fr tt te re hY an le st fo co ls ne na pY ro : Nat → Int32} {l : List Nat} {c : Nat}
theorem ty_go162 {post : Int32 → SY → Prop} {r : Nat} {x : Int32} (hS : ty_S D is su ik sk te an) (hl : l.length ≤ 4) (hc : c < tp_m D) (hly : tp_ly D na pY ro l) (h : post 1 ((nI (tp_m D)), vY, is, su, ik, sk, fr, tt, te, re, hY, an, le, st, fo, co, ls, upd ne (l.length + 1) 0, upd na (l.length + 1) (tp_N D (c :: l)), upd pY (l.length + 1) x, upd ro (l.length + 1) (nI r))) : wY_goOn_162 post (nI c) (nI l.length) x (nI r) (nI l.length + 1) (nI (tp_m D)) vY is su ik sk fr tt te re hY an le st fo co ls ne na pY ro := by
  have h12 := hS.1
  obtain ⟨k1, k2, k3, k4, k5, k6, k7, k8, k9, k10, k11⟩ := hS.2 c hc
  have e1 : (nI l.length).toNatClampNeg = l.length := nI_clamp (by omega)
  have e3 : (nI (l.length + 1)).toNatClampNeg = l.length + 1 := nI_clamp (by omega)
  have e4 : (nI (5 * c + 2)).toNatClampNeg = 5 * c + 2 := nI_clamp (by omega)
  have e5 : (nI (5 * c + 3)).toNatClampNeg = 5 * c + 3 := nI_clamp (by omega)
  have v1 : vp_in (nI l.length) 7 := vp_in_nI (by omega) (by omega)
  have v3 : vp_in (nI (l.length + 1)) 7 := vp_in_nI (by omega) (by omega)
  have v4 : vp_in (nI (5 * c + 2)) 60 := vp_in_nI (by omega) (by omega)
  have v5 : vp_in (nI (5 * c + 3)) 60 := vp_in_nI (by omega) (by omega)
  rw [tp_N] at h
  unfold wY_goOn_162
  rw [ty_5k c 2 (x := 2) rfl, ty_5k c 3 (x := 3) rfl, nI_1 l.length, e1, e3, e4, e5, k8, k9, hly.1]
  exact ⟨v3, nm_e ⟨v3, nm_e ⟨v1, v4, v5, v3, nm_e ⟨v3, nm_e h⟩⟩⟩⟩
theorem ty_go116 {post : Int32 → SY → Prop} {r : Nat} {x : Int32} (hS : ty_S D is su ik sk te an) (hl : l.length ≤ 4) (hc : c < tp_m D) (hr : r ≤ 100) (hly : tp_ly D na pY ro l) (h : post 1 ((nI (tp_m D)), vY, is, su, ik, sk, fr, tt, te, re, hY, an, le, st, fo, co, upd ls l.length (nI c), upd ne (l.length + 1) 0, upd na (l.length + 1) (tp_N D (c :: l)), upd pY (l.length + 1) x, upd ro (l.length + 1) (nI (tp_cl (tp_lm D c) r)))) : wY_goOn_116 post (nI c) (nI l.length) (nI r) x (nI (tp_m D)) vY is su ik sk fr tt te re hY an le st fo co ls ne na pY ro := by
  have h12 := hS.1
  obtain ⟨k1, k2, k3, k4, k5, k6, k7, k8, k9, k10, k11⟩ := hS.2 c hc
  have e1 : (nI l.length).toNatClampNeg = l.length := nI_clamp (by omega)
  have e4 : (nI (5 * c + 1)).toNatClampNeg = 5 * c + 1 := nI_clamp (by omega)
  unfold wY_goOn_116
  rw [ty_5k c 1 (x := 1) rfl, e1, e4]
  refine ⟨vp_in_nI (by omega) (by omega), nm_e ⟨vp_in_nI (by omega) (by omega), nm_r k6 ?_⟩⟩
  refine pk_le 4 (tp_lm D c) (fun g => ?_) (fun g => pk_le r (tp_lm D c) (fun g2 => ?_) (fun g2 => ?_))
  · have e : tp_cl (tp_lm D c) r = r := if_neg (by omega)
    rw [e] at h
    exact ty_go162 hS hl hc hly h
  · have e : tp_cl (tp_lm D c) r = r := if_neg (by omega)
    rw [e] at h
    exact ty_go162 hS hl hc hly h
  · have e : tp_cl (tp_lm D c) r = tp_lm D c := if_pos (by omega)
    rw [e] at h
    exact ty_go162 hS hl hc hly h
theorem ty_go42n {post : Int32 → SY → Prop} {z x : Int32} (hS : ty_S D is su ik sk te an) (hl : l.length ≤ 5) (hc : c < tp_m D) (hz : z < 0) (h0 : post 0 ((nI (tp_m D)), vY, is, su, ik, sk, fr, tt, te, re, hY, an, le, st, fo, co, ls, ne, na, pY, ro)) : wY_goOn_42 post (nI c) (nI l.length) x z (nI (tp_m D)) vY is su ik sk fr tt te re hY an le st fo co ls ne na pY ro := by
  have h12 := hS.1
  have v1 : vp_in (nI l.length) 7 := vp_in_nI (by omega) (by omega)
  have v4 : vp_in (nI (5 * c + 4)) 60 := vp_in_nI (by omega) (by omega)
  have v0 : vp_in (nI (5 * c)) 60 := vp_in_nI (by omega) (by omega)
  unfold wY_goOn_42
  rw [ty_5k c 4 (x := 4) rfl, ty_5]
  exact ⟨v1, v4, nm_e (br_c (fun _ => h0) (fun _ => ⟨v0, br_c (fun _ => h0) (fun _ => br_t hz h0)⟩))⟩
theorem ty_go42 {post : Int32 → SY → Prop} {r : Nat} {x : Int32} (hS : ty_S D is su ik sk te an) (hl : l.length ≤ 5) (hc : c < tp_m D) (hr : r ≤ 100) (hly : tp_ly D na pY ro l) (hx : x = 0 ↔ ¬ tp_sf D c = true)
    (h : l.length ≠ 5 → tp_au D c = true → ¬ tp_P D 15 l &&& tp_po D c = 0 → (tp_sf D c = true ∨ tp_nm D l c = true) → post 1 ((nI (tp_m D)), vY, is, su, ik, sk, fr, tt, te, re, hY, an, le, st, fo, co, upd ls l.length (nI c), upd ne (l.length + 1) 0, upd na (l.length + 1) (tp_N D (c :: l)), upd pY (l.length + 1) (tp_P D 15 (c :: l)), upd ro (l.length + 1) (nI (tp_cl (tp_lm D c) r))))
    (h0 : ¬ (l.length ≠ 5 ∧ tp_au D c = true ∧ (¬ tp_P D 15 l &&& tp_po D c = 0) ∧ (tp_sf D c = true ∨ tp_nm D l c = true)) → post 0 ((nI (tp_m D)), vY, is, su, ik, sk, fr, tt, te, re, hY, an, le, st, fo, co, ls, ne, na, pY, ro)) : wY_goOn_42 post (nI c) (nI l.length) x (nI r) (nI (tp_m D)) vY is su ik sk fr tt te re hY an le st fo co ls ne na pY ro := by
  have h12 := hS.1
  obtain ⟨k1, k2, k3, k4, k5, k6, k7, k8, k9, k10, k11⟩ := hS.2 c hc
  have e1 : (nI l.length).toNatClampNeg = l.length := nI_clamp (by omega)
  have e2 : (nI c).toNatClampNeg = c := nI_clamp (by omega)
  have e4 : (nI (5 * c + 4)).toNatClampNeg = 5 * c + 4 := nI_clamp (by omega)
  have e5 : (nI (5 * c)).toNatClampNeg = 5 * c := nI_clamp (by omega)
  have v1 : vp_in (nI l.length) 7 := vp_in_nI (by omega) (by omega)
  have v2 : vp_in (nI c) 12 := vp_in_nI (by omega) (by omega)
  unfold wY_goOn_42
  rw [ty_5k c 4 (x := 4) rfl, ty_5, e1, e2, e4, e5, k10, hly.2.1, hly.1]
  refine ⟨v1, vp_in_nI (by omega) (by omega), nm_e ?_⟩
  refine pk_eq l.length 5 (fun g => h0 (fun z => z.1 g)) (fun g => ⟨vp_in_nI (by omega) (by omega), ?_⟩)
  by_cases ha : te (5 * c) = 0
  · exact br_t ha (h0 (fun z => (k5.mp ha) z.2.1))
  have ha2 : tp_au D c = true := Classical.byContradiction (fun z => ha (k5.mpr z))
  refine br_f ha (br_f (nI_pos (by omega)) ?_)
  by_cases hp : tp_P D 15 l &&& tp_po D c = 0
  · exact br_t hp (h0 (fun z => z.2.2.1 hp))
  refine br_f hp ?_
  by_cases hs : x = 0
  · have hs2 := hx.mp hs
    refine br_t hs ⟨v1, v2, ?_⟩
    refine ty_has (fun q => ?_) (fun q => ?_)
    · rw [← k3] at q
      refine br_f (by decide) ?_
      exact ty_go116 hS (by omega) hc hr hly (h g ha2 hp (Or.inr (decide_eq_true q)))
    · rw [← k3] at q
      refine br_t rfl (h0 (fun z => ?_))
      rcases z.2.2.2 with y | y
      · exact hs2 y
      · exact q (of_decide_eq_true y)
  · have hs2 : tp_sf D c = true := Classical.byContradiction (fun z => hs (hx.mpr z))
    exact br_f hs (ty_go116 hS (by omega) hc hr hly (h g ha2 hp (Or.inl hs2)))
theorem ty_goOn {post : Int32 → SY → Prop} (hS : ty_S D is su ik sk te an) (hl : l.length ≤ 5) (hc : c < tp_m D) (hly : tp_ly D na pY ro l)
    (h : l.length ≠ 5 → tp_au D c = true → ¬ tp_P D 15 l &&& tp_po D c = 0 → (tp_sf D c = true ∨ (0 < tp_R D 100 l ∧ tp_nm D l c = true)) → post 1 ((nI (tp_m D)), vY, is, su, ik, sk, fr, tt, te, re, hY, an, le, st, fo, co, upd ls l.length (nI c), upd ne (l.length + 1) 0, upd na (l.length + 1) (tp_N D (c :: l)), upd pY (l.length + 1) (tp_P D 15 (c :: l)), upd ro (l.length + 1) (nI (tp_R D 100 (c :: l)))))
    (h0 : ¬ (l.length ≠ 5 ∧ tp_au D c = true ∧ (¬ tp_P D 15 l &&& tp_po D c = 0) ∧ (tp_sf D c = true ∨ (0 < tp_R D 100 l ∧ tp_nm D l c = true))) → post 0 ((nI (tp_m D)), vY, is, su, ik, sk, fr, tt, te, re, hY, an, le, st, fo, co, ls, ne, na, pY, ro)) : wpY_goOn post ((nI (tp_m D)), vY, is, su, ik, sk, fr, tt, te, re, hY, an, le, st, fo, co, ls, ne, na, pY, ro) (nI c) (nI l.length) := by
  have h12 := hS.1
  obtain ⟨k1, k2, k3, k4, k5, k6, k7, k8, k9, k10, k11⟩ := hS.2 c hc
  have e1 : (nI l.length).toNatClampNeg = l.length := nI_clamp (by omega)
  have e2 : (nI c).toNatClampNeg = c := nI_clamp (by omega)
  have v1 : vp_in (nI l.length) 7 := vp_in_nI (by omega) (by omega)
  have v2 : vp_in (nI c) 12 := vp_in_nI (by omega) (by omega)
  have hR := tp_R_le D 100 l
  rw [tp_R] at h
  unfold wpY_goOn
  dsimp only
  rw [e2]
  refine ⟨v2, v2, ?_⟩
  by_cases hs : is c = su c
  · have hs2 := k4.mp hs
    rw [if_pos hs2] at h
    refine br_t hs (br_f (by decide) ?_)
    rw [e1, hly.2.2]
    refine ⟨v1, ty_go42 hS hl hc (by omega) hly ⟨fun z => absurd z (by decide), fun z => absurd hs2 z⟩ (fun g1 g2 g3 g4 => h g1 g2 g3 (Or.inl hs2)) (fun g => h0 (fun z => g ⟨z.1, z.2.1, z.2.2.1, Or.inl hs2⟩))⟩
  · have hs2 : ¬ tp_sf D c = true := fun z => hs (k4.mpr z)
    rw [if_neg hs2] at h
    refine br_f hs (br_t rfl ?_)
    rw [e1, hly.2.2]
    refine ⟨v1, ?_⟩
    by_cases h100 : 0 < tp_R D 100 l
    · have e4 : nI (tp_R D 100 l) - 1 = nI (tp_R D 100 l - 1) := by
        have := nI_pred (tp_R D 100 l - 1)
        rw [Nat.sub_add_cancel h100] at this
        exact this
      rw [e4]
      refine ty_go42 hS hl hc (by omega) hly ⟨fun _ => hs2, fun _ => rfl⟩ (fun g1 g2 g3 g4 => h g1 g2 g3 (Or.inr ⟨h100, ?_⟩)) (fun g => h0 (fun z => g ⟨z.1, z.2.1, z.2.2.1, ?_⟩))
      · exact g4.resolve_left hs2
      · exact Or.inr (z.2.2.2.resolve_left hs2).2
    · have e4 : tp_R D 100 l = 0 := by omega
      refine ty_go42n hS hl hc (by rw [e4]; decide) (h0 (fun z => ?_))
      rcases z.2.2.2 with y | y
      · exact hs2 y
      · exact h100 y.1
end
/-- the steps of a node with k levels -/
def ty_K : Nat → Nat
  | 0 => 0
  | k + 1 => 12 * (ty_K k + 1) + 1
def ty_f (D : tp_D) (U : Int32) (k : Nat) (l : List Nat) (c : Nat) : List (List Nat) := (if tp_en D (bt U) 15 l c = true then [c :: l] else []) ++ (if tp_go D (bt U) 15 l c = true then tp_E D (bt U) k (c :: l) else [])
section
variable {D : tp_D} {U : Int32} {is su ik sk fr tt te re hY an : Nat → Int32}
/-- a node: if what comes behind it goes well from N0 steps on, so does the node with M more -/
def ty_Node (D : tp_D) (U : Int32) (is su ik sk fr tt te re hY an : Nat → Int32) (post : SY → Prop) (ev L : List (List Nat)) (M : Nat) (l : List Nat) (le st fo co ls ne na pY ro : Nat → Int32) : Prop :=
  ∀ N0, (∀ le' st' fo' co' ls' ne' na' pY' ro', ty_R D (ev ++ L) le' st' fo' co' → (∀ i, i < l.length → ls' i = ls i ∧ ne' i = ne i) → (∀ i, i ≤ l.length → na' i = na i ∧ pY' i = pY i ∧ ro' i = ro i) → ∀ n', N0 ≤ n' → wY_search_74 post n' (nI l.length + (-1)) (nI (tp_m D)) U is su ik sk fr tt te re hY an le' st' fo' co' ls' ne' na' pY' ro') → ∀ n, N0 + M ≤ n → wY_search_74 post n (nI l.length) (nI (tp_m D)) U is su ik sk fr tt te re hY an le st fo co ls ne na pY ro
theorem ty_cand {post : SY → Prop} {k : Nat} (hS : ty_S D is su ik sk te an)
    (IH : 0 < k → ∀ (l : List Nat) (ev : List (List Nat)) (le st fo co ls ne na pY ro : Nat → Int32), l.length + k = 6 → tp_st ls l → ne l.length = 0 → (∀ y, y ∈ l → y < tp_m D) → tp_LY D na pY ro l → ty_R D ev le st fo co → ty_Node D U is su ik sk fr tt te re hY an post ev (tp_E D (bt U) k l) (ty_K k) l le st fo co ls ne na pY ro) :
    ∀ (j c : Nat) (l : List Nat) (ev : List (List Nat)) (le st fo co ls ne na pY ro : Nat → Int32), c + j = tp_m D → l.length + (k + 1) = 6 → tp_st ls l → ne l.length = nI c → (∀ y, y ∈ l → y < tp_m D) → tp_LY D na pY ro l → ty_R D ev le st fo co → ty_Node D U is su ik sk fr tt te re hY an post ev (tp_fm (ty_f D U k l) j c) (j * (ty_K k + 1) + 1) l le st fo co ls ne na pY ro := by
  have h12 := hS.1
  intro j
  induction j with
  | zero =>
    intro c l ev le st fo co ls ne na pY ro hcj hk hst hne hm hLY hR N0 hr n hn
    obtain ⟨n, rfl⟩ : ∃ k, n = k + 1 := ⟨n - 1, by omega⟩
    have e1 : (nI l.length).toNatClampNeg = l.length := nI_clamp (by omega)
    have v1 : vp_in (nI l.length) 7 := vp_in_nI (by omega) (by omega)
    rw [wY_search_74]
    dsimp only
    rw [e1]
    refine br_f (nI_pos (by omega)) ⟨v1, nm_r hne ⟨v1, v1, nm_e (br_f (nI_nlt (by omega) (by omega)) (nm_e ?_))⟩⟩
    refine hr le st fo co ls _ na pY ro ?_ (fun i hi => ⟨rfl, pk_un (by omega)⟩) (fun i _ => ⟨rfl, rfl, rfl⟩) n (by omega)
    rw [tp_fm, List.append_nil]
    exact hR
  | succ j ih =>
    intro c l ev le st fo co ls ne na pY ro hcj hk hst hne hm hLY hR N0 hr n hn
    obtain ⟨n, rfl⟩ : ∃ k, n = k + 1 := ⟨n - 1, by omega⟩
    have hly := tp_LY_top l hLY
    have hc : c < tp_m D := by omega
    have e1 : (nI l.length).toNatClampNeg = l.length := nI_clamp (by omega)
    have v1 : vp_in (nI l.length) 7 := vp_in_nI (by omega) (by omega)
    have hmul : (j + 1) * (ty_K k + 1) = j * (ty_K k + 1) + (ty_K k + 1) := by rw [Nat.add_mul, Nat.one_mul]
    rw [tp_fm] at hr
    -- the walk goes on at c + 1 with the events ev'
    have nx : ∀ (ev' : List (List Nat)) (le' st' fo' co' ls' ne' na' pY' ro' : Nat → Int32), ev' = ev ++ ty_f D U k l c → ty_R D ev' le' st' fo' co' → (∀ i, i < l.length → ls' i = ls i ∧ ne' i = ne i) → ne' l.length = nI (c + 1) → (∀ i, i ≤ l.length → na' i = na i ∧ pY' i = pY i ∧ ro' i = ro i) → ∀ n', N0 + (j * (ty_K k + 1) + 1) ≤ n' → wY_search_74 post n' (nI l.length) (nI (tp_m D)) U is su ik sk fr tt te re hY an le' st' fo' co' ls' ne' na' pY' ro' := by
      intro ev' le' st' fo' co' ls' ne' na' pY' ro' hev hR' g1 g2 g3 n' hn'
      refine ih (c + 1) l ev' le' st' fo' co' ls' ne' na' pY' ro' (by omega) hk (tp_st_congr l (fun i hi => (g1 i hi).1) hst) g2 hm (tp_LY_congr l g3 hLY) hR' N0 ?_ n' hn'
      intro le2 st2 fo2 co2 ls2 ne2 na2 pY2 ro2 f1 f2 f3 n2 f4
      refine hr le2 st2 fo2 co2 ls2 ne2 na2 pY2 ro2 ?_ ?_ ?_ n2 f4
      · rw [hev, List.append_assoc] at f1
        exact f1
      · intro i hi
        exact ⟨(f2 i hi).1.trans (g1 i hi).1, (f2 i hi).2.trans (g1 i hi).2⟩
      · intro i hi
        obtain ⟨a1, a2, a3⟩ := f3 i hi
        obtain ⟨b1, b2, b3⟩ := g3 i hi
        exact ⟨a1.trans b1, a2.trans b2, a3.trans b3⟩
    have hp : ∀ i, i < l.length → ls i = ls i ∧ upd ne l.length (nI c + 1) i = ne i := fun i hi => ⟨rfl, pk_un (by omega)⟩
    have hq : upd ne l.length (nI c + 1) l.length = nI (c + 1) := by rw [pk_us, nI_1]
    -- nothing comes of c
    have no : ¬ tp_lk D (bt U) 15 l c = true → wY_search_74 post n (nI l.length) (nI (tp_m D)) U is su ik sk fr tt te re hY an le st fo co ls (upd ne l.length (nI c + 1)) na pY ro := by
      intro z
      refine nx ev le st fo co ls _ na pY ro ?_ hR hp hq (fun i _ => ⟨rfl, rfl, rfl⟩) n (by omega)
      unfold ty_f
      rw [if_neg (fun g => z (tp_en_iff.mp g).1), if_neg (fun g => z (tp_go_iff.mp g).1), List.append_nil, List.append_nil]
    rw [wY_search_74]
    dsimp only
    rw [e1, hne]
    refine br_f (nI_pos (by omega)) ⟨v1, nm_e ⟨v1, v1, nm_e (br_t (nI_lt (by omega) (by omega)) ?_)⟩⟩
    refine ty_has (fun b1 => ?_) (fun b1 => ?_)
    case _ =>
      refine br_f (by decide) ?_
      have hu : bt U c = true := (tb_has _ (by omega)).mp b1
      refine ty_follows hS (by omega) hc hst hm (fun b2 => ?_) (fun b2 => ?_)
      case _ =>
        refine br_f (by decide) ?_
        refine ty_used (by omega) (by omega) hst (fun y hy => Nat.lt_of_lt_of_le (hm y hy) h12) (fun b3 => ?_) (fun b3 => ?_)
        case _ => exact br_f (by decide) (no (fun z => (tp_lk_iff.mp z).2.1 b3))
        case _ =>
          refine br_t rfl ?_
          -- after end: the events ev1, then goOn
          have go : ∀ (le' st' fo' co' : Nat → Int32), ty_R D (ev ++ (if tp_en D (bt U) 15 l c = true then [c :: l] else [])) le' st' fo' co' → wpY_goOn (fun r u => match u with | (m2, vY2, is2, su2, ik2, sk2, fr2, tt2, te2, re2, hY2, an2, le2, st2, fo2, co2, ls2, ne2, na2, pY2, ro2) => ((r = 0 → wY_search_74 post n (nI l.length) m2 vY2 is2 su2 ik2 sk2 fr2 tt2 te2 re2 hY2 an2 le2 st2 fo2 co2 ls2 ne2 na2 pY2 ro2) ∧ (¬ r = 0 → ∀ x2 : Int32, x2 = nI l.length + 1 → wY_search_74 post n x2 m2 vY2 is2 su2 ik2 sk2 fr2 tt2 te2 re2 hY2 an2 le2 st2 fo2 co2 ls2 ne2 na2 pY2 ro2))) ((nI (tp_m D)), U, is, su, ik, sk, fr, tt, te, re, hY, an, le', st', fo', co', ls, upd ne l.length (nI c + 1), na, pY, ro) (nI c) (nI l.length) := by
            intro le' st' fo' co' hR'
            refine ty_goOn hS (by omega) hc hly (fun q1 q2 q3 q4 => ?_) (fun q => ?_)
            · have hgo : tp_go D (bt U) 15 l c = true := tp_go_iff.mpr ⟨tp_lk_iff.mpr ⟨hu, b3, b2, q3⟩, q2, q4⟩
              refine br_f (by decide) (nm_r (nI_1 l.length) ?_)
              have hl1 : (c :: l).length = l.length + 1 := List.length_cons
              have hIH := IH (by omega) (c :: l) _ le' st' fo' co' (upd ls l.length (nI c)) (upd (upd ne l.length (nI c + 1)) (l.length + 1) 0) (upd na (l.length + 1) (tp_N D (c :: l))) (upd pY (l.length + 1) (tp_P D 15 (c :: l))) (upd ro (l.length + 1) (nI (tp_R D 100 (c :: l)))) (by omega) ⟨pk_us, tp_st_congr l (fun i hi => pk_un (by omega)) hst⟩ (by rw [hl1]; exact pk_us) ?_ ⟨⟨by rw [hl1]; exact pk_us, by rw [hl1]; exact pk_us, by rw [hl1]; exact pk_us⟩, tp_LY_congr l (fun i hi => ⟨pk_un (by omega), pk_un (by omega), pk_un (by omega)⟩) hLY⟩ hR'
              · refine hIH (N0 + (j * (ty_K k + 1) + 1)) ?_ n (by omega)
                intro le2 st2 fo2 co2 ls2 ne2 na2 pY2 ro2 f1 f2 f3 n2 f4
                have ep : nI (c :: l).length + (-1) = nI l.length := pk_m1 l.length
                rw [ep]
                refine nx _ le2 st2 fo2 co2 ls2 ne2 na2 pY2 ro2 ?_ f1 ?_ ?_ ?_ n2 f4
                · unfold ty_f
                  rw [if_pos hgo, List.append_assoc]
                · intro i hi
                  obtain ⟨a1, a2⟩ := f2 i (by omega)
                  exact ⟨a1.trans (pk_un (by omega)), a2.trans ((pk_un (by omega)).trans (pk_un (by omega)))⟩
                · rw [(f2 l.length (by omega)).2, pk_un (by omega), hq]
                · intro i hi
                  obtain ⟨a1, a2, a3⟩ := f3 i (by omega)
                  exact ⟨a1.trans (pk_un (by omega)), a2.trans (pk_un (by omega)), a3.trans (pk_un (by omega))⟩
              · intro y hy
                rcases List.mem_cons.mp hy with hy | hy
                · rw [hy]; exact hc
                · exact hm y hy
            · refine br_t rfl ?_
              refine nx _ le' st' fo' co' ls _ na pY ro ?_ hR' hp hq (fun i _ => ⟨rfl, rfl, rfl⟩) n (by omega)
              unfold ty_f
              by_cases hgo : tp_go D (bt U) 15 l c = true
              · have g1 := tp_go_iff.mp hgo
                have g2 := tp_lk_iff.mp g1.1
                have hk0 : k = 0 := by
                  apply Classical.byContradiction
                  intro hk0
                  exact q ⟨by omega, g1.2.1, g2.2.2.2, g1.2.2⟩
                subst hk0
                rw [if_pos hgo, tp_E, List.append_nil]
              · rw [if_neg hgo, List.append_nil]
          refine ty_end hS (by omega) hc hst hm hly hR (fun c1 c2 le' st' fo' co' hR' => ?_) (fun c1 => ?_)
          · have hen : tp_en D (bt U) 15 l c = true := tp_en_iff.mpr ⟨tp_lk_iff.mpr ⟨hu, b3, b2, c1⟩, c2⟩
            exact go le' st' fo' co' (by rw [if_pos hen]; exact hR')
          · have hen : ¬ tp_en D (bt U) 15 l c = true := by
              intro z
              have z1 := tp_en_iff.mp z
              exact c1 ⟨(tp_lk_iff.mp z1.1).2.2.2, z1.2⟩
            exact go le st fo co (by rw [if_neg hen, List.append_nil]; exact hR)
      case _ => exact br_t rfl (no (fun z => b2 (tp_lk_iff.mp z).2.2.1))
    case _ => exact br_t rfl (no (fun z => b1 ((tb_has _ (by omega)).mpr (tp_lk_iff.mp z).1)))
theorem ty_node {post : SY → Prop} (hS : ty_S D is su ik sk te an) : ∀ (k : Nat), 0 < k → ∀ (l : List Nat) (ev : List (List Nat)) (le st fo co ls ne na pY ro : Nat → Int32), l.length + k = 6 → tp_st ls l → ne l.length = 0 → (∀ y, y ∈ l → y < tp_m D) → tp_LY D na pY ro l → ty_R D ev le st fo co → ty_Node D U is su ik sk fr tt te re hY an post ev (tp_E D (bt U) k l) (ty_K k) l le st fo co ls ne na pY ro := by
  intro k
  induction k with
  | zero => intro h; omega
  | succ k ih =>
    intro _ l ev le st fo co ls ne na pY ro hk hst hne hm hLY hR N0 hr n hn
    have h12 := hS.1
    have hM : tp_m D * (ty_K k + 1) ≤ 12 * (ty_K k + 1) := Nat.mul_le_mul_right _ h12
    have hM2 : ty_K (k + 1) = 12 * (ty_K k + 1) + 1 := rfl
    exact ty_cand (U := U) hS ih (tp_m D) 0 l ev le st fo co ls ne na pY ro (by omega) hk hst hne hm hLY hR N0 hr n (by omega)
theorem ty_search7 {post : SY → Prop} (hS : ty_S D is su ik sk te an) (H : ∀ le st fo co ls ne na pY ro, ty_R D (tp_E D (bt U) 6 []) le st fo co → post ((nI (tp_m D)), U, is, su, ik, sk, fr, tt, te, re, hY, an, le, st, fo, co, ls, ne, na, pY, ro)) : ∀ (j i : Nat) (le st fo co ls ne na pY ro : Nat → Int32) (n : Nat), i + j = 12 → j < n → (∀ e, e < i → le e = 0 ∧ fo e = 0) → wY_search_7 post (nI (tp_m D)) U n (nI i) is su ik sk fr tt te re hY an le st fo co ls ne na pY ro := by
  intro j
  induction j with
  | zero =>
    intro i le st fo co ls ne na pY ro n hj hn h0
    obtain ⟨n, rfl⟩ : ∃ k, n = k + 1 := ⟨n - 1, by omega⟩
    refine br_t (nI_le (a := 12) (by omega) (by omega)) (nm_e (nm_e (nm_e (nm_e ⟨1 + ty_K 6, ?_⟩))))
    have h := ty_node (U := U) (post := post) (fr := fr) (tt := tt) (re := re) (hY := hY) hS 6 (by omega) [] [] le st fo co ls (upd ne 0 0) (upd na 0 255) (upd pY 0 15) (upd ro 0 100) rfl True.intro pk_us (fun y hy => absurd hy (List.not_mem_nil)) ⟨pk_us, pk_us, pk_us⟩ (fun T hT => tp_Z_0 (h0 T (by omega)).1 (h0 T (by omega)).2)
    refine h 1 ?_ _ (Nat.le_refl _)
    intro le' st' fo' co' ls' ne' na' pY' ro' f1 _ _ n' hn'
    obtain ⟨n, rfl⟩ : ∃ k, n' = k + 1 := ⟨n' - 1, by omega⟩
    exact br_t (by decide) (H le' st' fo' co' ls' ne' na' pY' ro' f1)
  | succ j ih =>
    intro i le st fo co ls ne na pY ro n hj hn h0
    obtain ⟨n, rfl⟩ : ∃ k, n = k + 1 := ⟨n - 1, by omega⟩
    have e1 : (nI i).toNatClampNeg = i := nI_clamp (by omega)
    have v : vp_in (nI i) 12 := vp_in_nI (by omega) (by omega)
    rw [wY_search_7]
    dsimp only
    rw [e1]
    refine br_f (nI_ge (b := 12) (by omega) (by omega)) ⟨v, nm_e ⟨v, nm_e ⟨v, nm_e (nm_r (nI_1 i) (ih (i + 1) _ st _ _ ls ne na pY ro n (by omega) (by omega) ?_))⟩⟩⟩
    intro e he
    by_cases z : e = i
    · rw [z]; exact ⟨pk_us, pk_us⟩
    · rw [pk_un z, pk_un z]
      exact h0 e (by omega)
theorem ty_search {post : SY → Prop} {vY : Int32} {le st fo co ls ne na pY ro : Nat → Int32} (hS : ty_S D is su ik sk te an) (H : ∀ le st fo co ls ne na pY ro, ty_R D (tp_E D (bt U) 6 []) le st fo co → post ((nI (tp_m D)), U, is, su, ik, sk, fr, tt, te, re, hY, an, le, st, fo, co, ls, ne, na, pY, ro)) : wpY_search post ((nI (tp_m D)), vY, is, su, ik, sk, fr, tt, te, re, hY, an, le, st, fo, co, ls, ne, na, pY, ro) U :=
  ⟨13, ty_search7 hS H 12 0 le st fo co ls ne na pY ro 13 (by omega) (by omega) (fun e he => absurd he (Nat.not_lt_zero _))⟩
end
end
section
/-! the loops of the reference's questions -/
section
variable {D : tp_D} {vY : Int32} {is su ik sk fr tt te re hY an le st fo co ls ne na pY ro : Nat → Int32}
theorem ty_va4 {post : Int32 → Prop} {t : Int32} (h12 : tp_m D ≤ 12) (h : post (tp_mk (tx_ok fr tt re hY t) (tp_m D))) : ∀ j c n, c + j = tp_m D → j < n → wY_validAt_4 post t (nI (tp_m D)) vY is su ik sk fr tt te re hY an le st fo co ls ne na pY ro n (tp_mk (tx_ok fr tt re hY t) c) (nI c) := by
  intro j
  induction j with
  | zero =>
    intro c n hj hn
    obtain ⟨n, rfl⟩ : ∃ k, n = k + 1 := ⟨n - 1, by omega⟩
    have e : c = tp_m D := by omega
    rw [e]
    exact br_t (nI_le (by omega) (by omega)) h
  | succ j ih =>
    intro c n hj hn
    obtain ⟨n, rfl⟩ : ∃ k, n = k + 1 := ⟨n - 1, by omega⟩
    have e2 : (nI c).toNatClampNeg = c := nI_clamp (by omega)
    have v : vp_in (nI c) 12 := vp_in_nI (by omega) (by omega)
    have hi := ih (c + 1) n (by omega) (by omega)
    rw [tp_mk] at hi
    have hno : ¬ tx_ok fr tt re hY t c = true → wY_validAt_4 post t (nI (tp_m D)) vY is su ik sk fr tt te re hY an le st fo co ls ne na pY ro n (tp_mk (tx_ok fr tt re hY t) c) (nI (c + 1)) := by
      intro z
      rw [if_neg z] at hi
      exact hi
    rw [wY_validAt_4]
    dsimp only
    rw [e2]
    refine br_f (nI_ge (by omega) (by omega)) ⟨v, ?_⟩
    by_cases h1 : t < fr c
    · exact br_t h1 (nm_r (nI_1 c) (hno (by unfold tx_ok; rw [decide_eq_true h1]; simp)))
    refine br_f h1 ⟨v, ?_⟩
    by_cases h2 : tt c < t
    · exact br_t h2 (nm_r (nI_1 c) (hno (by unfold tx_ok; rw [decide_eq_true h2]; simp)))
    refine br_f h2 ⟨v, ?_⟩
    by_cases h3 : re c ≤ t
    · exact br_t h3 (nm_r (nI_1 c) (hno (by unfold tx_ok; rw [decide_eq_true h3]; simp)))
    refine br_f h3 ⟨v, ?_⟩
    by_cases h4 : hY c = 0
    · refine br_t h4 (nm_e (nm_r (nI_1 c) ?_))
      rw [if_pos (by unfold tx_ok; rw [decide_eq_false h1, decide_eq_false h2, decide_eq_false h3, decide_eq_true h4]; rfl)] at hi
      exact hi
    · exact br_f h4 (nm_r (nI_1 c) (hno (by unfold tx_ok; rw [decide_eq_false h4]; simp)))
theorem ty_va {post : Int32 → Prop} {t : Int32} (h12 : tp_m D ≤ 12) (h : post (tp_mk (tx_ok fr tt re hY t) (tp_m D))) : wpY_validAt post ((nI (tp_m D)), vY, is, su, ik, sk, fr, tt, te, re, hY, an, le, st, fo, co, ls, ne, na, pY, ro) t :=
  ⟨tp_m D + 1, ty_va4 h12 h (tp_m D) 0 _ (by omega) (by omega)⟩
theorem ty_Q {U : Int32} {c p : Nat} (hR : ty_R D (tp_E D (bt U) 6 []) le st fo co) (hc : c < 12) (hp : p < 32) : bt (fo c) p = true ↔ tp_Q D U c p = true := by
  rw [(hR c hc).2.2.1 p hp]
  unfold tp_Q
  rw [List.any_eq_true]
theorem ty_C {U : Int32} {c o : Nat} (hR : ty_R D (tp_E D (bt U) 6 []) le st fo co) (hc : c < 12) (ho : o < 32) (hl : 0 < tp_ln (tp_B D U c)) : bt (co c) o = true ↔ tp_C D U c o = true := by
  have hne : tp_at c (tp_E D (bt U) 6 []) ≠ [] := by
    intro z
    unfold tp_B at hl
    rw [z] at hl
    exact absurd hl (Nat.lt_irrefl 0)
  rw [(hR c hc).2.2.2.1 o ho hne]
  unfold tp_C
  rw [List.all_eq_true]
  constructor
  · intro g p hp
    exact decide_eq_true (g p hp)
  · intro g p hp
    exact of_decide_eq_true (g p hp)
theorem ty_le {U : Int32} {c : Nat} (hR : ty_R D (tp_E D (bt U) 6 []) le st fo co) (hc : c < 12) : le c = nI (tp_ln (tp_B D U c)) := (hR c hc).1
theorem ty_pol {U : Int32} {c : Nat} (hR : ty_R D (tp_E D (bt U) 6 []) le st fo co) (hc : c < 12) : fo c = tp_mk (tp_Q D U c) 4 := by
  apply b_ext
  intro i hi
  rw [tp_mk_bit _ hi 4 (by omega)]
  have h := ty_Q hR hc hi
  by_cases h4 : i < 4
  · rw [decide_eq_true h4, Bool.true_and]
    cases hq : tp_Q D U c i with
    | true => exact h.mpr hq
    | false =>
      cases hf : bt (fo c) i with
      | false => rfl
      | true =>
        have := h.mp hf
        rw [hq] at this
        cases this
  · rw [decide_eq_false h4, Bool.false_and]
    cases hf : bt (fo c) i with
    | false => rfl
    | true =>
      exfalso
      obtain ⟨p, p1, p2⟩ := ((hR c hc).2.2.1 i hi).mp hf
      have h15 := tp_P_bit D 15 i p p2
      rw [tb_15 i hi, decide_eq_false h4] at h15
      cases h15
theorem ty_count4 {post : Int32 → Prop} {U : Int32} (h12 : tp_m D ≤ 12) (hR : ty_R D (tp_E D (bt U) 6 []) le st fo co) (H : post (nI (tp_cn (tp_tr D U) (tp_m D)))) : ∀ (j c : Nat) (n : Nat), c + j = tp_m D → j < n → wY_countFound_4 post (nI (tp_m D)) vY is su ik sk fr tt te re hY an le st fo co ls ne na pY ro n (nI (tp_cn (tp_tr D U) c)) (nI c) := by
  intro j
  induction j with
  | zero =>
    intro c n hj hn
    obtain ⟨n, rfl⟩ : ∃ k, n = k + 1 := ⟨n - 1, by omega⟩
    have e : c = tp_m D := by omega
    rw [e]
    exact br_t (nI_le (by omega) (by omega)) H
  | succ j ih =>
    intro c n hj hn
    obtain ⟨n, rfl⟩ : ∃ k, n = k + 1 := ⟨n - 1, by omega⟩
    have e2 : (nI c).toNatClampNeg = c := nI_clamp (by omega)
    rw [wY_countFound_4]
    dsimp only
    rw [e2, ty_le hR (by omega)]
    refine br_f (nI_ge (by omega) (by omega)) ⟨vp_in_nI (by omega) (by omega), ?_⟩
    have hi := ih (c + 1) n (by omega) (by omega)
    have h6 := tp_B_le D U c
    rw [tp_cn] at hi
    by_cases h0 : 0 < tp_ln (tp_B D U c)
    · have ht : tp_tr D U c = true := decide_eq_true h0
      rw [if_pos ht] at hi
      exact br_f (nI_nle h0 (by omega)) (nm_r (nI_1 _) (nm_r (nI_1 c) hi))
    · have ht : ¬ tp_tr D U c = true := fun z => h0 (of_decide_eq_true z)
      rw [if_neg ht] at hi
      exact br_t (nI_le (b := 0) (by omega) (by omega)) (nm_r (nI_1 c) hi)
theorem ty_count {post : Int32 → Prop} {U : Int32} (h12 : tp_m D ≤ 12) (hR : ty_R D (tp_E D (bt U) 6 []) le st fo co) (H : post (nI (tp_cn (tp_tr D U) (tp_m D)))) : wpY_countFound post ((nI (tp_m D)), vY, is, su, ik, sk, fr, tt, te, re, hY, an, le, st, fo, co, ls, ne, na, pY, ro) :=
  ⟨tp_m D + 1, ty_count4 h12 hR H (tp_m D) 0 _ (by omega) (by omega)⟩
theorem ty_keys44 {post : Int32 → SY → Prop} {U v : Int32} {p : Nat} (hS : ty_S D is su ik sk te an) (hk : ∀ c, c < tp_m D → sk c = tp_kx D c) (hp : p < 4) (hR : ty_R D (tp_E D (bt U) 6 []) le st fo co) (H : post (tp_ks (tp_kf D U v p) (tp_kx D) (tp_m D)) ((nI (tp_m D)), vY, is, su, ik, sk, fr, tt, te, re, hY, an, le, st, fo, co, ls, ne, na, pY, ro)) : ∀ (j c : Nat) (n : Nat), c + j = tp_m D → j < n → wY_keysOf_44 post v (nI p) (nI (tp_m D)) vY is su ik sk fr tt te re hY an le st fo co ls ne na pY ro n (tp_ks (tp_kf D U v p) (tp_kx D) c) (nI c) := by
  have h12 := hS.1
  intro j
  induction j with
  | zero =>
    intro c n hj hn
    obtain ⟨n, rfl⟩ : ∃ k, n = k + 1 := ⟨n - 1, by omega⟩
    have e : c = tp_m D := by omega
    rw [e]
    exact br_t (nI_le (by omega) (by omega)) H
  | succ j ih =>
    intro c n hj hn
    obtain ⟨n, rfl⟩ : ∃ k, n = k + 1 := ⟨n - 1, by omega⟩
    have e2 : (nI c).toNatClampNeg = c := nI_clamp (by omega)
    have vv : vp_in (nI c) 12 := vp_in_nI (by omega) (by omega)
    obtain ⟨k1, k2, k3, _⟩ := hS.2 c (by omega)
    have hi := ih (c + 1) n (by omega) (by omega)
    rw [tp_ks] at hi
    rw [wY_keysOf_44]
    dsimp only
    rw [e2, ← k3, hk c (by omega)]
    refine br_f (nI_ge (by omega) (by omega)) ⟨vv, ?_⟩
    by_cases hv : tp_se D c / 10 = v
    · refine br_t hv ⟨vv, ?_⟩
      refine ty_has (fun g => ?_) (fun g => ?_)
      · have h0 := (ty_Q hR (by omega) (by omega)).mp ((tb_has _ (by omega)).mp g)
        rw [if_pos (by unfold tp_kf; rw [decide_eq_true hv, h0]; rfl)] at hi
        exact br_f (by decide) ⟨vv, nm_e (nm_r (nI_1 c) hi)⟩
      · rw [if_neg (by unfold tp_kf; rw [Bool.and_eq_true]; exact fun z => g ((tb_has _ (by omega)).mpr ((ty_Q hR (by omega) (by omega)).mpr z.2)))] at hi
        exact br_t rfl (nm_r (nI_1 c) hi)
    · rw [if_neg (by unfold tp_kf; rw [Bool.and_eq_true]; exact fun z => hv (of_decide_eq_true z.1))] at hi
      exact br_f hv (nm_r (nI_1 c) hi)
theorem ty_narrow0 {post : Int32 → SY → Prop} {U : Int32} {T : Nat} (h12 : tp_m D ≤ 12) (hT : T < tp_m D) (hR : ty_R D (tp_E D (bt U) 6 []) le st fo co) (h0 : tp_ln (tp_B D U T) = 0) (H : post (-2) ((nI (tp_m D)), vY, is, su, ik, sk, fr, tt, te, re, hY, an, le, st, fo, co, ls, ne, na, pY, ro)) : ∀ (j c : Nat) (n : Nat), c + j = tp_m D → j < n → wY_narrow_22 post (nI T) (nI (tp_m D)) vY is su ik sk fr tt te re hY an le st fo co ls ne na pY ro n (nI c) := by
  intro j
  induction j with
  | zero =>
    intro c n hj hn
    obtain ⟨n, rfl⟩ : ∃ k, n = k + 1 := ⟨n - 1, by omega⟩
    exact br_t (nI_le (by omega) (by omega)) H
  | succ j ih =>
    intro c n hj hn
    obtain ⟨n, rfl⟩ : ∃ k, n = k + 1 := ⟨n - 1, by omega⟩
    have e2 : (nI T).toNatClampNeg = T := nI_clamp (by omega)
    rw [wY_narrow_22]
    dsimp only
    rw [e2, ty_le hR (by omega), h0]
    refine br_f (nI_ge (by omega) (by omega)) ⟨vp_in_nI (by omega) (by omega), br_t (nI_le (b := 0) (by omega) (by omega)) (nm_r (nI_1 c) (ih (c + 1) n (by omega) (by omega)))⟩
theorem ty_narrow22 {post : Int32 → SY → Prop} {U : Int32} {T : Nat} (h12 : tp_m D ≤ 12) (hT : T < tp_m D) (hR : ty_R D (tp_E D (bt U) 6 []) le st fo co) (h0 : 0 < tp_ln (tp_B D U T)) : ∀ (j c : Nat) (n : Nat), c + j = tp_m D → j < n → post (tp_fs (tp_nf D U T) j c) ((nI (tp_m D)), vY, is, su, ik, sk, fr, tt, te, re, hY, an, le, st, fo, co, ls, ne, na, pY, ro) → wY_narrow_22 post (nI T) (nI (tp_m D)) vY is su ik sk fr tt te re hY an le st fo co ls ne na pY ro n (nI c) := by
  have h6 := tp_B_le D U T
  intro j
  induction j with
  | zero =>
    intro c n hj hn H
    obtain ⟨n, rfl⟩ : ∃ k, n = k + 1 := ⟨n - 1, by omega⟩
    exact br_t (nI_le (by omega) (by omega)) H
  | succ j ih =>
    intro c n hj hn H
    obtain ⟨n, rfl⟩ : ∃ k, n = k + 1 := ⟨n - 1, by omega⟩
    have e2 : (nI T).toNatClampNeg = T := nI_clamp (by omega)
    have vv : vp_in (nI T) 12 := vp_in_nI (by omega) (by omega)
    rw [wY_narrow_22]
    dsimp only
    rw [e2, ty_le hR (by omega)]
    refine br_f (nI_ge (by omega) (by omega)) ⟨vv, br_f (nI_nle h0 (by omega)) ?_⟩
    rw [tp_fs] at H
    by_cases hc : c = T
    · rw [if_neg (by unfold tp_nf; rw [decide_eq_true hc]; simp)] at H
      exact br_t (by rw [hc]) (nm_r (nI_1 c) (ih (c + 1) n (by omega) (by omega) H))
    · refine br_f (fun z => hc ((nI_eq (by omega) (by omega)).mp z)) ⟨vv, ?_⟩
      refine ty_has (fun g => ?_) (fun g => ?_)
      · have hC := (ty_C hR (by omega) (by omega) h0).mp ((tb_has _ (by omega)).mp g)
        rw [if_pos (by unfold tp_nf; rw [decide_eq_false hc, hC]; rfl)] at H
        exact br_f (by decide) H
      · rw [if_neg (by unfold tp_nf; rw [Bool.and_eq_true]; exact fun z => g ((tb_has _ (by omega)).mpr ((ty_C hR (by omega) (by omega) h0).mpr z.2)))] at H
        exact br_t rfl (nm_r (nI_1 c) (ih (c + 1) n (by omega) (by omega) H))
end
theorem tp_mk_m1 (f : Nat → Bool) {n : Nat} (hn : n ≤ 12) : ¬ tp_mk f n = -1 := by
  intro z
  have h := tp_mk_bit f (i := 31) (by omega) n (by omega)
  rw [z, b_m1 31 (by omega), decide_eq_false (by omega), Bool.false_and] at h
  cases h
section
variable {D : tp_D} {is su ik sk fr tt te re hY an : Nat → Int32}
theorem ty_until48 {post : Int32 → SY → Prop} {J : Int32 → Int32 → Int32 → Int32 → Int32 → (Nat → Int32) → (Nat → Int32) → (Nat → Int32) → (Nat → Int32) → (Nat → Int32) → (Nat → Int32) → (Nat → Int32) → (Nat → Int32) → (Nat → Int32) → (Nat → Int32) → (Nat → Int32) → (Nat → Int32) → (Nat → Int32) → (Nat → Int32) → (Nat → Int32) → (Nat → Int32) → (Nat → Int32) → (Nat → Int32) → (Nat → Int32) → Prop} {U vY r : Int32} {T t : Nat} {le st fo co ls ne na pY ro : Nat → Int32} (hT : T < 12) (hR : ty_R D (tp_E D (bt U) 6 []) le st fo co) (h1 : tp_ln (tp_B D U T) = 0 → post r ((nI (tp_m D)), vY, is, su, ik, sk, fr, tt, te, re, hY, an, le, st, fo, co, ls, ne, na, pY, ro)) (h2 : ¬ tp_ln (tp_B D U T) = 0 → J (nI t) U (nI (t + 1)) (nI (tp_m D)) vY is su ik sk fr tt te re hY an le st fo co ls ne na pY ro) : wY_until_48 post J (nI T) r (nI t) U (nI (tp_m D)) vY is su ik sk fr tt te re hY an le st fo co ls ne na pY ro := by
  have e2 : (nI T).toNatClampNeg = T := nI_clamp (by omega)
  have h6 := tp_B_le D U T
  unfold wY_until_48
  rw [e2, ty_le hR hT]
  refine ⟨vp_in_nI (by omega) (by omega), ?_⟩
  by_cases h0 : tp_ln (tp_B D U T) = 0
  · exact br_t (by rw [h0]; rfl) (h1 h0)
  · exact br_f (nI_ne0 (by omega) (by omega)) (nm_r (nI_1 t) (h2 h0))
theorem ty_until20 {post : Int32 → SY → Prop} {T : Nat} {V : Nat → Int32} (hS : ty_S D is su ik sk te an) (hT : T < tp_m D) (hV : ∀ t, t ≤ 100 → V t = tp_mk (tx_ok fr tt re hY (nI t)) (tp_m D)) : ∀ (j t : Nat) (r b vY : Int32) (le st fo co ls ne na pY ro : Nat → Int32) (n : Nat), t + j = 101 → j < n → (b = -1 ∨ ty_R D (tp_E D (bt b) 6 []) le st fo co) → (∀ vY le st fo co ls ne na pY ro, post (tp_un (tp_ug D V T) j t r) ((nI (tp_m D)), vY, is, su, ik, sk, fr, tt, te, re, hY, an, le, st, fo, co, ls, ne, na, pY, ro)) → wY_until_20 post (nI T) n r b (nI t) (nI (tp_m D)) vY is su ik sk fr tt te re hY an le st fo co ls ne na pY ro := by
  have h12 := hS.1
  intro j
  induction j with
  | zero =>
    intro t r b vY le st fo co ls ne na pY ro n hj hn hb H
    obtain ⟨n, rfl⟩ : ∃ k, n = k + 1 := ⟨n - 1, by omega⟩
    exact br_t (nI_le (a := 101) (by omega) (by omega)) (H vY le st fo co ls ne na pY ro)
  | succ j ih =>
    intro t r b vY le st fo co ls ne na pY ro n hj hn hb H
    obtain ⟨n, rfl⟩ : ∃ k, n = k + 1 := ⟨n - 1, by omega⟩
    have h48 : ∀ (vY : Int32) (le st fo co ls ne na pY ro : Nat → Int32), ty_R D (tp_E D (bt (V t)) 6 []) le st fo co → wY_until_48 post (wY_until_20 post (nI T) n) (nI T) r (nI t) (V t) (nI (tp_m D)) vY is su ik sk fr tt te re hY an le st fo co ls ne na pY ro := by
      intro vY le st fo co ls ne na pY ro hR
      refine ty_until48 (by omega) hR (fun h0 => ?_) (fun h0 => ?_)
      · have ht : tp_ug D V T t = true := decide_eq_true h0
        rw [tp_un, if_pos ht] at H
        exact H vY le st fo co ls ne na pY ro
      · have ht : ¬ tp_ug D V T t = true := fun z => h0 (of_decide_eq_true z)
        rw [tp_un, if_neg ht] at H
        exact ih (t + 1) (nI t) (V t) vY le st fo co ls ne na pY ro n (by omega) (by omega) (Or.inr hR) H
    rw [wY_until_20]
    dsimp only
    refine br_f (nI_ge (b := 101) (by omega) (by omega)) (ty_va h12 ?_)
    rw [← hV t (by omega)]
    by_cases e : V t = b
    · refine br_t e (h48 vY le st fo co ls ne na pY ro ?_)
      rcases hb with hb | hb
      · exfalso
        rw [hb, hV t (by omega)] at e
        exact tp_mk_m1 _ h12 e
      · rw [e]; exact hb
    · exact br_f e (ty_search hS (fun le st fo co ls ne na pY ro hR => h48 (V t) le st fo co ls ne na pY ro hR))
end
end
section
/-! the tests of arguments -/
theorem vq_cert (x : Int32) {m : Nat} (hm : m ≤ 12) : (x < 0 ∨ nI m ≤ x) ∨ ∃ c, c < m ∧ x = nI c := by
  rcases pk_ix x (n := m) (by omega) with h | h | h
  · exact Or.inl (Or.inl h)
  · exact Or.inl (Or.inr h)
  · exact Or.inr h
theorem vq_time (x : Int32) : (x < 0 ∨ nI 101 ≤ x) ∨ ∃ t, t ≤ 100 ∧ x = nI t := by
  rcases pk_ix x (n := 101) (by omega) with h | h | ⟨t, h, e⟩
  · exact Or.inl (Or.inl h)
  · exact Or.inl (Or.inr h)
  · exact Or.inr ⟨t, by omega, e⟩
theorem vq_100 {x : Int32} (h : nI 101 ≤ x) : (100 : Int32) < x := Int32.lt_of_lt_of_le (by decide) h
section
variable {m : Nat} {aX vY : Int32} {ie se sf gf gt au li al ba po rv he aT aE pa cl nl rl pl : Nat → Int32} {is su ik sk fr tt te re hY an le st fo co ls ne na pY ro : Nat → Int32}
theorem tx_isC0 {post : Int32 → Prop} {x : Int32} (hb : x < 0 ∨ nI m ≤ x) (h : post 0) : wpX_isCertificate post ((nI m), aX, ie, se, sf, gf, gt, au, li, al, ba, po, rv, he, aT, aE, pa, cl, nl, rl, pl) x := by
  by_cases z : x < 0
  · exact br_t z h
  · exact br_f z (br_t (hb.resolve_left z) h)
theorem tx_isC1 {post : Int32 → Prop} {c : Nat} (h12 : m ≤ 12) (hc : c < m) (h : post 1) : wpX_isCertificate post ((nI m), aX, ie, se, sf, gf, gt, au, li, al, ba, po, rv, he, aT, aE, pa, cl, nl, rl, pl) (nI c) :=
  br_f (nI_pos (by omega)) (br_f (nI_ge hc (by omega)) h)
theorem tx_isT0 {post : Int32 → Prop} {x : Int32} (hb : x < 0 ∨ nI 101 ≤ x) (h : post 0) : wpX_isTime post ((nI m), aX, ie, se, sf, gf, gt, au, li, al, ba, po, rv, he, aT, aE, pa, cl, nl, rl, pl) x := by
  by_cases z : x < 0
  · exact br_t z h
  · exact br_f z (br_t (vq_100 (hb.resolve_left z)) h)
theorem tx_isT1 {post : Int32 → Prop} {t : Nat} (ht : t ≤ 100) (h : post 1) : wpX_isTime post ((nI m), aX, ie, se, sf, gf, gt, au, li, al, ba, po, rv, he, aT, aE, pa, cl, nl, rl, pl) (nI t) :=
  br_f (nI_pos (by omega)) (br_f (nI_nlt (a := 100) ht (by omega)) h)
theorem tx_isA0 {post : Int32 → Prop} {x : Int32} (hb : x < 0 ∨ nI 3 ≤ x) (h : post 0) : wpX_isAnchor post ((nI m), aX, ie, se, sf, gf, gt, au, li, al, ba, po, rv, he, aT, aE, pa, cl, nl, rl, pl) x := by
  by_cases z : x < 0
  · exact br_t z h
  · exact br_f z (br_t (hb.resolve_left z) h)
theorem tx_isA1 {post : Int32 → Prop} {a : Nat} (ha : a < 3) (h : post 1) : wpX_isAnchor post ((nI m), aX, ie, se, sf, gf, gt, au, li, al, ba, po, rv, he, aT, aE, pa, cl, nl, rl, pl) (nI a) :=
  br_f (nI_pos (by omega)) (br_f (nI_ge (b := 3) ha (by omega)) h)
theorem ty_bC0 {post : Int32 → Prop} {x : Int32} (hb : x < 0 ∨ nI m ≤ x) (h : post 1) : wpY_badCertificate post ((nI m), vY, is, su, ik, sk, fr, tt, te, re, hY, an, le, st, fo, co, ls, ne, na, pY, ro) x := by
  by_cases z : x < 0
  · exact br_t z h
  · exact br_f z (br_f (Int32.not_lt.mpr (hb.resolve_left z)) h)
theorem ty_bC1 {post : Int32 → Prop} {c : Nat} (h12 : m ≤ 12) (hc : c < m) (h : post 0) : wpY_badCertificate post ((nI m), vY, is, su, ik, sk, fr, tt, te, re, hY, an, le, st, fo, co, ls, ne, na, pY, ro) (nI c) :=
  br_f (nI_pos (by omega)) (br_t (nI_lt hc (by omega)) h)
theorem ty_bT0 {post : Int32 → Prop} {x : Int32} (hb : x < 0 ∨ nI 101 ≤ x) (h : post 1) : wpY_badTime post ((nI m), vY, is, su, ik, sk, fr, tt, te, re, hY, an, le, st, fo, co, ls, ne, na, pY, ro) x := by
  by_cases z : x < 0
  · exact br_t z h
  · exact br_f z (br_f (Int32.not_le.mpr (vq_100 (hb.resolve_left z))) h)
theorem ty_bT1 {post : Int32 → Prop} {t : Nat} (ht : t ≤ 100) (h : post 0) : wpY_badTime post ((nI m), vY, is, su, ik, sk, fr, tt, te, re, hY, an, le, st, fo, co, ls, ne, na, pY, ro) (nI t) :=
  br_f (nI_pos (by omega)) (br_t (nI_le (b := 100) ht (by omega)) h)
theorem ty_bQc {post : Int32 → Prop} {x y : Int32} (hb : x < 0 ∨ nI m ≤ x) (h : post 1) : wpY_badQuestion post ((nI m), vY, is, su, ik, sk, fr, tt, te, re, hY, an, le, st, fo, co, ls, ne, na, pY, ro) x y := by
  unfold wpY_badQuestion
  refine ty_bC0 hb ?_
  exact br_f (by decide) h
theorem ty_bQt {post : Int32 → Prop} {c : Nat} {y : Int32} (h12 : m ≤ 12) (hc : c < m) (hb : y < 0 ∨ nI 101 ≤ y) (h : post 1) : wpY_badQuestion post ((nI m), vY, is, su, ik, sk, fr, tt, te, re, hY, an, le, st, fo, co, ls, ne, na, pY, ro) (nI c) y := by
  unfold wpY_badQuestion
  refine ty_bC1 h12 hc ?_
  refine br_t rfl ?_
  refine ty_bT0 hb ?_
  exact br_f (by decide) h
theorem ty_bQ {post : Int32 → Prop} {c t : Nat} (h12 : m ≤ 12) (hc : c < m) (ht : t ≤ 100) (h : post 0) : wpY_badQuestion post ((nI m), vY, is, su, ik, sk, fr, tt, te, re, hY, an, le, st, fo, co, ls, ne, na, pY, ro) (nI c) (nI t) := by
  unfold wpY_badQuestion
  refine ty_bC1 h12 hc ?_
  refine br_t rfl ?_
  refine ty_bT1 ht ?_
  exact br_t rfl h
end
section
variable {D : tp_D} {aX : Int32} {sf gf gt au li rv he aT aE pa cl nl rl pl : Nat → Int32} {vY : Int32} {is su ik sk fr tt te re hY an le st fo co ls ne na pY ro : Nat → Int32}
theorem tx_trusted_c {post : Int32 → SX → Prop} {v1 v2 : Int32} (hb : v1 < 0 ∨ nI (tp_m D) ≤ v1) (h : post (-1) ((nI (tp_m D)), aX, (tp_ie D), (tp_se D), sf, gf, gt, au, li, (tp_al D), (tp_ba D), (tp_po D), rv, he, aT, aE, pa, cl, nl, rl, pl)) : wpX_trusted post ((nI (tp_m D)), aX, (tp_ie D), (tp_se D), sf, gf, gt, au, li, (tp_al D), (tp_ba D), (tp_po D), rv, he, aT, aE, pa, cl, nl, rl, pl) v1 v2 := by
  unfold wpX_trusted
  refine tx_isC0 hb ?_
  exact br_t rfl h
theorem tx_trusted_t {post : Int32 → SX → Prop} {c : Nat} {v2 : Int32} (h12 : tp_m D ≤ 12) (hc : c < tp_m D) (hb : v2 < 0 ∨ nI 101 ≤ v2) (h : post (-1) ((nI (tp_m D)), aX, (tp_ie D), (tp_se D), sf, gf, gt, au, li, (tp_al D), (tp_ba D), (tp_po D), rv, he, aT, aE, pa, cl, nl, rl, pl)) : wpX_trusted post ((nI (tp_m D)), aX, (tp_ie D), (tp_se D), sf, gf, gt, au, li, (tp_al D), (tp_ba D), (tp_po D), rv, he, aT, aE, pa, cl, nl, rl, pl) (nI c) v2 := by
  unfold wpX_trusted
  refine tx_isC1 h12 hc ?_
  refine br_f (by decide) ?_
  refine tx_isT0 hb ?_
  exact br_t rfl h
theorem ty_trusted_c {post : Int32 → SY → Prop} {v1 v2 : Int32} (hb : v1 < 0 ∨ nI (tp_m D) ≤ v1) (h : post (-1) ((nI (tp_m D)), vY, is, su, ik, sk, fr, tt, te, re, hY, an, le, st, fo, co, ls, ne, na, pY, ro)) : wpY_trusted post ((nI (tp_m D)), vY, is, su, ik, sk, fr, tt, te, re, hY, an, le, st, fo, co, ls, ne, na, pY, ro) v1 v2 := by
  unfold wpY_trusted
  refine ty_bQc hb ?_
  exact br_f (by decide) h
theorem ty_trusted_t {post : Int32 → SY → Prop} {c : Nat} {v2 : Int32} (h12 : tp_m D ≤ 12) (hc : c < tp_m D) (hb : v2 < 0 ∨ nI 101 ≤ v2) (h : post (-1) ((nI (tp_m D)), vY, is, su, ik, sk, fr, tt, te, re, hY, an, le, st, fo, co, ls, ne, na, pY, ro)) : wpY_trusted post ((nI (tp_m D)), vY, is, su, ik, sk, fr, tt, te, re, hY, an, le, st, fo, co, ls, ne, na, pY, ro) (nI c) v2 := by
  unfold wpY_trusted
  refine ty_bQt h12 hc hb ?_
  exact br_f (by decide) h
theorem tx_length_c {post : Int32 → SX → Prop} {v1 v2 : Int32} (hb : v1 < 0 ∨ nI (tp_m D) ≤ v1) (h : post (-1) ((nI (tp_m D)), aX, (tp_ie D), (tp_se D), sf, gf, gt, au, li, (tp_al D), (tp_ba D), (tp_po D), rv, he, aT, aE, pa, cl, nl, rl, pl)) : wpX_length post ((nI (tp_m D)), aX, (tp_ie D), (tp_se D), sf, gf, gt, au, li, (tp_al D), (tp_ba D), (tp_po D), rv, he, aT, aE, pa, cl, nl, rl, pl) v1 v2 := by
  unfold wpX_length
  refine tx_isC0 hb ?_
  exact br_t rfl h
theorem tx_length_t {post : Int32 → SX → Prop} {c : Nat} {v2 : Int32} (h12 : tp_m D ≤ 12) (hc : c < tp_m D) (hb : v2 < 0 ∨ nI 101 ≤ v2) (h : post (-1) ((nI (tp_m D)), aX, (tp_ie D), (tp_se D), sf, gf, gt, au, li, (tp_al D), (tp_ba D), (tp_po D), rv, he, aT, aE, pa, cl, nl, rl, pl)) : wpX_length post ((nI (tp_m D)), aX, (tp_ie D), (tp_se D), sf, gf, gt, au, li, (tp_al D), (tp_ba D), (tp_po D), rv, he, aT, aE, pa, cl, nl, rl, pl) (nI c) v2 := by
  unfold wpX_length
  refine tx_isC1 h12 hc ?_
  refine br_f (by decide) ?_
  refine tx_isT0 hb ?_
  exact br_t rfl h
theorem ty_length_c {post : Int32 → SY → Prop} {v1 v2 : Int32} (hb : v1 < 0 ∨ nI (tp_m D) ≤ v1) (h : post (-1) ((nI (tp_m D)), vY, is, su, ik, sk, fr, tt, te, re, hY, an, le, st, fo, co, ls, ne, na, pY, ro)) : wpY_length post ((nI (tp_m D)), vY, is, su, ik, sk, fr, tt, te, re, hY, an, le, st, fo, co, ls, ne, na, pY, ro) v1 v2 := by
  unfold wpY_length
  refine ty_bQc hb ?_
  exact br_f (by decide) h
theorem ty_length_t {post : Int32 → SY → Prop} {c : Nat} {v2 : Int32} (h12 : tp_m D ≤ 12) (hc : c < tp_m D) (hb : v2 < 0 ∨ nI 101 ≤ v2) (h : post (-1) ((nI (tp_m D)), vY, is, su, ik, sk, fr, tt, te, re, hY, an, le, st, fo, co, ls, ne, na, pY, ro)) : wpY_length post ((nI (tp_m D)), vY, is, su, ik, sk, fr, tt, te, re, hY, an, le, st, fo, co, ls, ne, na, pY, ro) (nI c) v2 := by
  unfold wpY_length
  refine ty_bQt h12 hc hb ?_
  exact br_f (by decide) h
theorem tx_step_c {post : Int32 → SX → Prop} {v1 v2 : Int32} {v3 : Int32} (hb : v1 < 0 ∨ nI (tp_m D) ≤ v1) (h : post (-1) ((nI (tp_m D)), aX, (tp_ie D), (tp_se D), sf, gf, gt, au, li, (tp_al D), (tp_ba D), (tp_po D), rv, he, aT, aE, pa, cl, nl, rl, pl)) : wpX_step post ((nI (tp_m D)), aX, (tp_ie D), (tp_se D), sf, gf, gt, au, li, (tp_al D), (tp_ba D), (tp_po D), rv, he, aT, aE, pa, cl, nl, rl, pl) v1 v2 v3 := by
  unfold wpX_step
  refine tx_isC0 hb ?_
  exact br_t rfl h
theorem tx_step_t {post : Int32 → SX → Prop} {c : Nat} {v2 : Int32} {v3 : Int32} (h12 : tp_m D ≤ 12) (hc : c < tp_m D) (hb : v2 < 0 ∨ nI 101 ≤ v2) (h : post (-1) ((nI (tp_m D)), aX, (tp_ie D), (tp_se D), sf, gf, gt, au, li, (tp_al D), (tp_ba D), (tp_po D), rv, he, aT, aE, pa, cl, nl, rl, pl)) : wpX_step post ((nI (tp_m D)), aX, (tp_ie D), (tp_se D), sf, gf, gt, au, li, (tp_al D), (tp_ba D), (tp_po D), rv, he, aT, aE, pa, cl, nl, rl, pl) (nI c) v2 v3 := by
  unfold wpX_step
  refine tx_isC1 h12 hc ?_
  refine br_f (by decide) ?_
  refine tx_isT0 hb ?_
  exact br_t rfl h
theorem ty_step_c {post : Int32 → SY → Prop} {v1 v2 : Int32} {v3 : Int32} (hb : v1 < 0 ∨ nI (tp_m D) ≤ v1) (h : post (-1) ((nI (tp_m D)), vY, is, su, ik, sk, fr, tt, te, re, hY, an, le, st, fo, co, ls, ne, na, pY, ro)) : wpY_step post ((nI (tp_m D)), vY, is, su, ik, sk, fr, tt, te, re, hY, an, le, st, fo, co, ls, ne, na, pY, ro) v1 v2 v3 := by
  unfold wpY_step
  refine ty_bQc hb ?_
  exact br_f (by decide) h
theorem ty_step_t {post : Int32 → SY → Prop} {c : Nat} {v2 : Int32} {v3 : Int32} (h12 : tp_m D ≤ 12) (hc : c < tp_m D) (hb : v2 < 0 ∨ nI 101 ≤ v2) (h : post (-1) ((nI (tp_m D)), vY, is, su, ik, sk, fr, tt, te, re, hY, an, le, st, fo, co, ls, ne, na, pY, ro)) : wpY_step post ((nI (tp_m D)), vY, is, su, ik, sk, fr, tt, te, re, hY, an, le, st, fo, co, ls, ne, na, pY, ro) (nI c) v2 v3 := by
  unfold wpY_step
  refine ty_bQt h12 hc hb ?_
  exact br_f (by decide) h
theorem tx_policies_c {post : Int32 → SX → Prop} {v1 v2 : Int32} (hb : v1 < 0 ∨ nI (tp_m D) ≤ v1) (h : post (-1) ((nI (tp_m D)), aX, (tp_ie D), (tp_se D), sf, gf, gt, au, li, (tp_al D), (tp_ba D), (tp_po D), rv, he, aT, aE, pa, cl, nl, rl, pl)) : wpX_policies post ((nI (tp_m D)), aX, (tp_ie D), (tp_se D), sf, gf, gt, au, li, (tp_al D), (tp_ba D), (tp_po D), rv, he, aT, aE, pa, cl, nl, rl, pl) v1 v2 := by
  unfold wpX_policies
  refine tx_isC0 hb ?_
  exact br_t rfl h
theorem tx_policies_t {post : Int32 → SX → Prop} {c : Nat} {v2 : Int32} (h12 : tp_m D ≤ 12) (hc : c < tp_m D) (hb : v2 < 0 ∨ nI 101 ≤ v2) (h : post (-1) ((nI (tp_m D)), aX, (tp_ie D), (tp_se D), sf, gf, gt, au, li, (tp_al D), (tp_ba D), (tp_po D), rv, he, aT, aE, pa, cl, nl, rl, pl)) : wpX_policies post ((nI (tp_m D)), aX, (tp_ie D), (tp_se D), sf, gf, gt, au, li, (tp_al D), (tp_ba D), (tp_po D), rv, he, aT, aE, pa, cl, nl, rl, pl) (nI c) v2 := by
  unfold wpX_policies
  refine tx_isC1 h12 hc ?_
  refine br_f (by decide) ?_
  refine tx_isT0 hb ?_
  exact br_t rfl h
theorem ty_policies_c {post : Int32 → SY → Prop} {v1 v2 : Int32} (hb : v1 < 0 ∨ nI (tp_m D) ≤ v1) (h : post (-1) ((nI (tp_m D)), vY, is, su, ik, sk, fr, tt, te, re, hY, an, le, st, fo, co, ls, ne, na, pY, ro)) : wpY_policies post ((nI (tp_m D)), vY, is, su, ik, sk, fr, tt, te, re, hY, an, le, st, fo, co, ls, ne, na, pY, ro) v1 v2 := by
  unfold wpY_policies
  refine ty_bQc hb ?_
  exact br_f (by decide) h
theorem ty_policies_t {post : Int32 → SY → Prop} {c : Nat} {v2 : Int32} (h12 : tp_m D ≤ 12) (hc : c < tp_m D) (hb : v2 < 0 ∨ nI 101 ≤ v2) (h : post (-1) ((nI (tp_m D)), vY, is, su, ik, sk, fr, tt, te, re, hY, an, le, st, fo, co, ls, ne, na, pY, ro)) : wpY_policies post ((nI (tp_m D)), vY, is, su, ik, sk, fr, tt, te, re, hY, an, le, st, fo, co, ls, ne, na, pY, ro) (nI c) v2 := by
  unfold wpY_policies
  refine ty_bQt h12 hc hb ?_
  exact br_f (by decide) h
theorem tx_until_c {post : Int32 → SX → Prop} {v1 v2 : Int32} (hb : v1 < 0 ∨ nI (tp_m D) ≤ v1) (h : post (-1) ((nI (tp_m D)), aX, (tp_ie D), (tp_se D), sf, gf, gt, au, li, (tp_al D), (tp_ba D), (tp_po D), rv, he, aT, aE, pa, cl, nl, rl, pl)) : wpX_until post ((nI (tp_m D)), aX, (tp_ie D), (tp_se D), sf, gf, gt, au, li, (tp_al D), (tp_ba D), (tp_po D), rv, he, aT, aE, pa, cl, nl, rl, pl) v1 v2 := by
  unfold wpX_until
  refine tx_isC0 hb ?_
  exact br_t rfl h
theorem tx_until_t {post : Int32 → SX → Prop} {c : Nat} {v2 : Int32} (h12 : tp_m D ≤ 12) (hc : c < tp_m D) (hb : v2 < 0 ∨ nI 101 ≤ v2) (h : post (-1) ((nI (tp_m D)), aX, (tp_ie D), (tp_se D), sf, gf, gt, au, li, (tp_al D), (tp_ba D), (tp_po D), rv, he, aT, aE, pa, cl, nl, rl, pl)) : wpX_until post ((nI (tp_m D)), aX, (tp_ie D), (tp_se D), sf, gf, gt, au, li, (tp_al D), (tp_ba D), (tp_po D), rv, he, aT, aE, pa, cl, nl, rl, pl) (nI c) v2 := by
  unfold wpX_until
  refine tx_isC1 h12 hc ?_
  refine br_f (by decide) ?_
  refine tx_isT0 hb ?_
  exact br_t rfl h
theorem ty_until_c {post : Int32 → SY → Prop} {v1 v2 : Int32} (hb : v1 < 0 ∨ nI (tp_m D) ≤ v1) (h : post (-1) ((nI (tp_m D)), vY, is, su, ik, sk, fr, tt, te, re, hY, an, le, st, fo, co, ls, ne, na, pY, ro)) : wpY_until post ((nI (tp_m D)), vY, is, su, ik, sk, fr, tt, te, re, hY, an, le, st, fo, co, ls, ne, na, pY, ro) v1 v2 := by
  unfold wpY_until
  refine ty_bQc hb ?_
  exact br_f (by decide) h
theorem ty_until_t {post : Int32 → SY → Prop} {c : Nat} {v2 : Int32} (h12 : tp_m D ≤ 12) (hc : c < tp_m D) (hb : v2 < 0 ∨ nI 101 ≤ v2) (h : post (-1) ((nI (tp_m D)), vY, is, su, ik, sk, fr, tt, te, re, hY, an, le, st, fo, co, ls, ne, na, pY, ro)) : wpY_until post ((nI (tp_m D)), vY, is, su, ik, sk, fr, tt, te, re, hY, an, le, st, fo, co, ls, ne, na, pY, ro) (nI c) v2 := by
  unfold wpY_until
  refine ty_bQt h12 hc hb ?_
  exact br_f (by decide) h
theorem tx_depending_c {post : Int32 → SX → Prop} {v1 v2 : Int32} (hb : v1 < 0 ∨ nI (tp_m D) ≤ v1) (h : post (-1) ((nI (tp_m D)), aX, (tp_ie D), (tp_se D), sf, gf, gt, au, li, (tp_al D), (tp_ba D), (tp_po D), rv, he, aT, aE, pa, cl, nl, rl, pl)) : wpX_depending post ((nI (tp_m D)), aX, (tp_ie D), (tp_se D), sf, gf, gt, au, li, (tp_al D), (tp_ba D), (tp_po D), rv, he, aT, aE, pa, cl, nl, rl, pl) v1 v2 := by
  unfold wpX_depending
  refine tx_isC0 hb ?_
  exact br_t rfl h
theorem tx_depending_t {post : Int32 → SX → Prop} {c : Nat} {v2 : Int32} (h12 : tp_m D ≤ 12) (hc : c < tp_m D) (hb : v2 < 0 ∨ nI 101 ≤ v2) (h : post (-1) ((nI (tp_m D)), aX, (tp_ie D), (tp_se D), sf, gf, gt, au, li, (tp_al D), (tp_ba D), (tp_po D), rv, he, aT, aE, pa, cl, nl, rl, pl)) : wpX_depending post ((nI (tp_m D)), aX, (tp_ie D), (tp_se D), sf, gf, gt, au, li, (tp_al D), (tp_ba D), (tp_po D), rv, he, aT, aE, pa, cl, nl, rl, pl) (nI c) v2 := by
  unfold wpX_depending
  refine tx_isC1 h12 hc ?_
  refine br_f (by decide) ?_
  refine tx_isT0 hb ?_
  exact br_t rfl h
theorem ty_depending_c {post : Int32 → SY → Prop} {v1 v2 : Int32} (hb : v1 < 0 ∨ nI (tp_m D) ≤ v1) (h : post (-1) ((nI (tp_m D)), vY, is, su, ik, sk, fr, tt, te, re, hY, an, le, st, fo, co, ls, ne, na, pY, ro)) : wpY_depending post ((nI (tp_m D)), vY, is, su, ik, sk, fr, tt, te, re, hY, an, le, st, fo, co, ls, ne, na, pY, ro) v1 v2 := by
  unfold wpY_depending
  refine ty_bQc hb ?_
  exact br_f (by decide) h
theorem ty_depending_t {post : Int32 → SY → Prop} {c : Nat} {v2 : Int32} (h12 : tp_m D ≤ 12) (hc : c < tp_m D) (hb : v2 < 0 ∨ nI 101 ≤ v2) (h : post (-1) ((nI (tp_m D)), vY, is, su, ik, sk, fr, tt, te, re, hY, an, le, st, fo, co, ls, ne, na, pY, ro)) : wpY_depending post ((nI (tp_m D)), vY, is, su, ik, sk, fr, tt, te, re, hY, an, le, st, fo, co, ls, ne, na, pY, ro) (nI c) v2 := by
  unfold wpY_depending
  refine ty_bQt h12 hc hb ?_
  exact br_f (by decide) h
theorem tx_narrow_c {post : Int32 → SX → Prop} {v1 v2 : Int32} (hb : v1 < 0 ∨ nI (tp_m D) ≤ v1) (h : post (-1) ((nI (tp_m D)), aX, (tp_ie D), (tp_se D), sf, gf, gt, au, li, (tp_al D), (tp_ba D), (tp_po D), rv, he, aT, aE, pa, cl, nl, rl, pl)) : wpX_narrow post ((nI (tp_m D)), aX, (tp_ie D), (tp_se D), sf, gf, gt, au, li, (tp_al D), (tp_ba D), (tp_po D), rv, he, aT, aE, pa, cl, nl, rl, pl) v1 v2 := by
  unfold wpX_narrow
  refine tx_isC0 hb ?_
  exact br_t rfl h
theorem tx_narrow_t {post : Int32 → SX → Prop} {c : Nat} {v2 : Int32} (h12 : tp_m D ≤ 12) (hc : c < tp_m D) (hb : v2 < 0 ∨ nI 101 ≤ v2) (h : post (-1) ((nI (tp_m D)), aX, (tp_ie D), (tp_se D), sf, gf, gt, au, li, (tp_al D), (tp_ba D), (tp_po D), rv, he, aT, aE, pa, cl, nl, rl, pl)) : wpX_narrow post ((nI (tp_m D)), aX, (tp_ie D), (tp_se D), sf, gf, gt, au, li, (tp_al D), (tp_ba D), (tp_po D), rv, he, aT, aE, pa, cl, nl, rl, pl) (nI c) v2 := by
  unfold wpX_narrow
  refine tx_isC1 h12 hc ?_
  refine br_f (by decide) ?_
  refine tx_isT0 hb ?_
  exact br_t rfl h
theorem ty_narrow_c {post : Int32 → SY → Prop} {v1 v2 : Int32} (hb : v1 < 0 ∨ nI (tp_m D) ≤ v1) (h : post (-1) ((nI (tp_m D)), vY, is, su, ik, sk, fr, tt, te, re, hY, an, le, st, fo, co, ls, ne, na, pY, ro)) : wpY_narrow post ((nI (tp_m D)), vY, is, su, ik, sk, fr, tt, te, re, hY, an, le, st, fo, co, ls, ne, na, pY, ro) v1 v2 := by
  unfold wpY_narrow
  refine ty_bQc hb ?_
  exact br_f (by decide) h
theorem ty_narrow_t {post : Int32 → SY → Prop} {c : Nat} {v2 : Int32} (h12 : tp_m D ≤ 12) (hc : c < tp_m D) (hb : v2 < 0 ∨ nI 101 ≤ v2) (h : post (-1) ((nI (tp_m D)), vY, is, su, ik, sk, fr, tt, te, re, hY, an, le, st, fo, co, ls, ne, na, pY, ro)) : wpY_narrow post ((nI (tp_m D)), vY, is, su, ik, sk, fr, tt, te, re, hY, an, le, st, fo, co, ls, ne, na, pY, ro) (nI c) v2 := by
  unfold wpY_narrow
  refine ty_bQt h12 hc hb ?_
  exact br_f (by decide) h
theorem tx_trusted {post : Int32 → SX → Prop} {c t : Nat} {U : Int32} (hS : tx_S D sf au li aT aE) (hc : c < tp_m D) (ht : t ≤ 100) (hU : tp_mk (tx_ok gf gt rv he (nI t)) (tp_m D) = U) (H : ∀ aX pa cl nl rl pl, post (if 0 < tp_ln (tp_B D U c) then 1 else 0) ((nI (tp_m D)), aX, (tp_ie D), (tp_se D), sf, gf, gt, au, li, (tp_al D), (tp_ba D), (tp_po D), rv, he, aT, aE, pa, cl, nl, rl, pl)) : wpX_trusted post ((nI (tp_m D)), aX, (tp_ie D), (tp_se D), sf, gf, gt, au, li, (tp_al D), (tp_ba D), (tp_po D), rv, he, aT, aE, pa, cl, nl, rl, pl) (nI c) (nI t) := by
  unfold wpX_trusted
  refine tx_isC1 hS.1 hc ?_
  refine br_f (by decide) ?_
  refine tx_isT1 ht ?_
  refine br_f (by decide) ?_
  refine tx_us hS.1 ?_
  rw [hU]
  refine tx_best15 hS hc (fun aX' pa' cl' nl' rl' pl' _ => ?_)
  have h6 := tp_B_le D U c
  by_cases h0 : 0 < tp_ln (tp_B D U c)
  · rw [if_pos h0] at H
    exact br_f (nI_nle h0 (by omega)) (H aX' pa' cl' nl' rl' pl')
  · rw [if_neg h0] at H
    exact br_t (nI_le (b := 0) (by omega) (by omega)) (H aX' pa' cl' nl' rl' pl')
theorem ty_trusted {post : Int32 → SY → Prop} {c t : Nat} {U : Int32} (hS : ty_S D is su ik sk te an) (hc : c < tp_m D) (ht : t ≤ 100) (hU : tp_mk (tx_ok fr tt re hY (nI t)) (tp_m D) = U) (H : ∀ vY le st fo co ls ne na pY ro, post (if 0 < tp_ln (tp_B D U c) then 1 else 0) ((nI (tp_m D)), vY, is, su, ik, sk, fr, tt, te, re, hY, an, le, st, fo, co, ls, ne, na, pY, ro)) : wpY_trusted post ((nI (tp_m D)), vY, is, su, ik, sk, fr, tt, te, re, hY, an, le, st, fo, co, ls, ne, na, pY, ro) (nI c) (nI t) := by
  have h12 := hS.1
  have e2 : (nI c).toNatClampNeg = c := nI_clamp (by omega)
  have vv : vp_in (nI c) 12 := vp_in_nI (by omega) (by omega)
  unfold wpY_trusted
  refine ty_bQ hS.1 hc ht ?_
  refine br_t rfl ?_
  refine ty_va hS.1 ?_
  rw [hU]
  refine ty_search hS (fun le st fo co ls ne na pY ro hR => ?_)
  have h6 := tp_B_le D U c
  dsimp only
  rw [e2, ty_le hR (by omega)]
  refine ⟨vv, ?_⟩
  by_cases h0 : 0 < tp_ln (tp_B D U c)
  · rw [if_pos h0] at H
    exact br_f (nI_nle h0 (by omega)) (H U le st fo co ls ne na pY ro)
  · rw [if_neg h0] at H
    exact br_t (nI_le (b := 0) (by omega) (by omega)) (H U le st fo co ls ne na pY ro)
theorem tx_length {post : Int32 → SX → Prop} {c t : Nat} {U : Int32} (hS : tx_S D sf au li aT aE) (hc : c < tp_m D) (ht : t ≤ 100) (hU : tp_mk (tx_ok gf gt rv he (nI t)) (tp_m D) = U) (H : ∀ aX pa cl nl rl pl, post (if 0 < tp_ln (tp_B D U c) then nI (tp_ln (tp_B D U c)) else -2) ((nI (tp_m D)), aX, (tp_ie D), (tp_se D), sf, gf, gt, au, li, (tp_al D), (tp_ba D), (tp_po D), rv, he, aT, aE, pa, cl, nl, rl, pl)) : wpX_length post ((nI (tp_m D)), aX, (tp_ie D), (tp_se D), sf, gf, gt, au, li, (tp_al D), (tp_ba D), (tp_po D), rv, he, aT, aE, pa, cl, nl, rl, pl) (nI c) (nI t) := by
  unfold wpX_length
  refine tx_isC1 hS.1 hc ?_
  refine br_f (by decide) ?_
  refine tx_isT1 ht ?_
  refine br_f (by decide) ?_
  refine tx_us hS.1 ?_
  rw [hU]
  refine tx_best15 hS hc (fun aX' pa' cl' nl' rl' pl' _ => ?_)
  have h6 := tp_B_le D U c
  by_cases h0 : 0 < tp_ln (tp_B D U c)
  · rw [if_pos h0] at H
    exact br_f (nI_nle h0 (by omega)) (H aX' pa' cl' nl' rl' pl')
  · rw [if_neg h0] at H
    exact br_t (nI_le (b := 0) (by omega) (by omega)) (H aX' pa' cl' nl' rl' pl')
theorem ty_length {post : Int32 → SY → Prop} {c t : Nat} {U : Int32} (hS : ty_S D is su ik sk te an) (hc : c < tp_m D) (ht : t ≤ 100) (hU : tp_mk (tx_ok fr tt re hY (nI t)) (tp_m D) = U) (H : ∀ vY le st fo co ls ne na pY ro, post (if 0 < tp_ln (tp_B D U c) then nI (tp_ln (tp_B D U c)) else -2) ((nI (tp_m D)), vY, is, su, ik, sk, fr, tt, te, re, hY, an, le, st, fo, co, ls, ne, na, pY, ro)) : wpY_length post ((nI (tp_m D)), vY, is, su, ik, sk, fr, tt, te, re, hY, an, le, st, fo, co, ls, ne, na, pY, ro) (nI c) (nI t) := by
  have h12 := hS.1
  have e2 : (nI c).toNatClampNeg = c := nI_clamp (by omega)
  have vv : vp_in (nI c) 12 := vp_in_nI (by omega) (by omega)
  unfold wpY_length
  refine ty_bQ hS.1 hc ht ?_
  refine br_t rfl ?_
  refine ty_va hS.1 ?_
  rw [hU]
  refine ty_search hS (fun le st fo co ls ne na pY ro hR => ?_)
  have h6 := tp_B_le D U c
  dsimp only
  rw [e2, ty_le hR (by omega)]
  refine ⟨vv, ?_⟩
  by_cases h0 : 0 < tp_ln (tp_B D U c)
  · rw [if_pos h0] at H
    exact br_f (nI_nle h0 (by omega)) ⟨vv, H U le st fo co ls ne na pY ro⟩
  · rw [if_neg h0] at H
    exact br_t (nI_le (b := 0) (by omega) (by omega)) (H U le st fo co ls ne na pY ro)
theorem tx_step {post : Int32 → SX → Prop} {c t : Nat} {U v3 : Int32} (hS : tx_S D sf au li aT aE) (hc : c < tp_m D) (ht : t ≤ 100) (hU : tp_mk (tx_ok gf gt rv he (nI t)) (tp_m D) = U) (H0 : (v3 < 0 ∨ nI (tp_ln (tp_B D U c)) ≤ v3) → ∀ aX pa cl nl rl pl, post (-2) ((nI (tp_m D)), aX, (tp_ie D), (tp_se D), sf, gf, gt, au, li, (tp_al D), (tp_ba D), (tp_po D), rv, he, aT, aE, pa, cl, nl, rl, pl)) (H1 : ∀ i q, v3 = nI i → tp_B D U c = some q → i < q.length → ∀ aX pa cl nl rl pl, tp_st pa q → post (pa i) ((nI (tp_m D)), aX, (tp_ie D), (tp_se D), sf, gf, gt, au, li, (tp_al D), (tp_ba D), (tp_po D), rv, he, aT, aE, pa, cl, nl, rl, pl)) : wpX_step post ((nI (tp_m D)), aX, (tp_ie D), (tp_se D), sf, gf, gt, au, li, (tp_al D), (tp_ba D), (tp_po D), rv, he, aT, aE, pa, cl, nl, rl, pl) (nI c) (nI t) v3 := by
  unfold wpX_step
  refine tx_isC1 hS.1 hc ?_
  refine br_f (by decide) ?_
  refine tx_isT1 ht ?_
  refine br_f (by decide) ?_
  refine tx_us hS.1 ?_
  rw [hU]
  refine tx_best15 hS hc (fun aX' pa' cl' nl' rl' pl' hq => ?_)
  have h6 := tp_B_le D U c
  by_cases z : v3 < 0
  · exact br_t z (H0 (Or.inl z) aX' pa' cl' nl' rl' pl')
  refine br_f z ?_
  by_cases z2 : nI (tp_ln (tp_B D U c)) ≤ v3
  · exact br_t z2 (H0 (Or.inr z2) aX' pa' cl' nl' rl' pl')
  refine br_f z2 ?_
  obtain ⟨i, hi, rfl⟩ := nI_of z
  rw [nI_leI (by omega) hi] at z2
  have e3 : (nI i).toNatClampNeg = i := nI_clamp hi
  cases hb : tp_B D U c with
  | none =>
    rw [hb] at z2
    exact absurd (Nat.zero_le i) z2
  | some q =>
    rw [hb] at z2 h6
    have z3 : i < q.length := Nat.lt_of_not_le z2
    have z4 : q.length ≤ 6 := h6
    rw [e3]
    exact ⟨vp_in_nI (by omega) (by omega), H1 i q rfl hb z3 aX' pa' cl' nl' rl' pl' (hq q hb)⟩
theorem ty_step {post : Int32 → SY → Prop} {c t : Nat} {U v3 : Int32} (hS : ty_S D is su ik sk te an) (hc : c < tp_m D) (ht : t ≤ 100) (hU : tp_mk (tx_ok fr tt re hY (nI t)) (tp_m D) = U) (H0 : (v3 < 0 ∨ nI (tp_ln (tp_B D U c)) ≤ v3) → ∀ vY le st fo co ls ne na pY ro, post (-2) ((nI (tp_m D)), vY, is, su, ik, sk, fr, tt, te, re, hY, an, le, st, fo, co, ls, ne, na, pY, ro)) (H1 : ∀ i q, v3 = nI i → tp_B D U c = some q → i < q.length → ∀ vY le st fo co ls ne na pY ro, tp_st (fun i => st (6 * c + i)) q → post (st (6 * c + i)) ((nI (tp_m D)), vY, is, su, ik, sk, fr, tt, te, re, hY, an, le, st, fo, co, ls, ne, na, pY, ro)) : wpY_step post ((nI (tp_m D)), vY, is, su, ik, sk, fr, tt, te, re, hY, an, le, st, fo, co, ls, ne, na, pY, ro) (nI c) (nI t) v3 := by
  have h12 := hS.1
  have e2 : (nI c).toNatClampNeg = c := nI_clamp (by omega)
  have vv : vp_in (nI c) 12 := vp_in_nI (by omega) (by omega)
  unfold wpY_step
  refine ty_bQ hS.1 hc ht ?_
  refine br_t rfl ?_
  refine ty_va hS.1 ?_
  rw [hU]
  refine ty_search hS (fun le st fo co ls ne na pY ro hR => ?_)
  have h6 := tp_B_le D U c
  dsimp only
  rw [e2, ty_le hR (by omega)]
  by_cases z : v3 < 0
  · exact br_t z (H0 (Or.inl z) U le st fo co ls ne na pY ro)
  refine br_f z ⟨vv, ?_⟩
  by_cases z2 : nI (tp_ln (tp_B D U c)) ≤ v3
  · exact br_f (Int32.not_lt.mpr z2) (H0 (Or.inr z2) U le st fo co ls ne na pY ro)
  refine br_t (Int32.not_le.mp z2) ?_
  obtain ⟨i, hi, rfl⟩ := nI_of z
  rw [nI_leI (by omega) hi] at z2
  cases hb : tp_B D U c with
  | none =>
    rw [hb] at z2
    exact absurd (Nat.zero_le i) z2
  | some q =>
    rw [hb] at z2 h6
    have z3 : i < q.length := Nat.lt_of_not_le z2
    have z4 : q.length ≤ 6 := h6
    have e3 : (nI (6 * c + i)).toNatClampNeg = 6 * c + i := nI_clamp (by omega)
    rw [ty_6k c i, e3]
    exact ⟨vp_in_nI (by omega) (by omega), H1 i q rfl hb z3 U le st fo co ls ne na pY ro ((hR c (by omega)).2.1 q hb)⟩
theorem tx_policies {post : Int32 → SX → Prop} {c t : Nat} {U : Int32} (hS : tx_S D sf au li aT aE) (hc : c < tp_m D) (ht : t ≤ 100) (hU : tp_mk (tx_ok gf gt rv he (nI t)) (tp_m D) = U) (H : ∀ aX pa cl nl rl pl, post (tp_mk (tp_Q D U c) 4) ((nI (tp_m D)), aX, (tp_ie D), (tp_se D), sf, gf, gt, au, li, (tp_al D), (tp_ba D), (tp_po D), rv, he, aT, aE, pa, cl, nl, rl, pl)) : wpX_policies post ((nI (tp_m D)), aX, (tp_ie D), (tp_se D), sf, gf, gt, au, li, (tp_al D), (tp_ba D), (tp_po D), rv, he, aT, aE, pa, cl, nl, rl, pl) (nI c) (nI t) := by
  unfold wpX_policies
  refine tx_isC1 hS.1 hc ?_
  refine br_f (by decide) ?_
  refine tx_isT1 ht ?_
  refine br_f (by decide) ?_
  refine tx_us hS.1 ?_
  rw [hU]
  exact ⟨5, tx_pol30 hS hc H 4 0 aX pa cl nl rl pl 5 (by omega) (by omega)⟩
theorem ty_policies {post : Int32 → SY → Prop} {c t : Nat} {U : Int32} (hS : ty_S D is su ik sk te an) (hc : c < tp_m D) (ht : t ≤ 100) (hU : tp_mk (tx_ok fr tt re hY (nI t)) (tp_m D) = U) (H : ∀ vY le st fo co ls ne na pY ro, post (tp_mk (tp_Q D U c) 4) ((nI (tp_m D)), vY, is, su, ik, sk, fr, tt, te, re, hY, an, le, st, fo, co, ls, ne, na, pY, ro)) : wpY_policies post ((nI (tp_m D)), vY, is, su, ik, sk, fr, tt, te, re, hY, an, le, st, fo, co, ls, ne, na, pY, ro) (nI c) (nI t) := by
  have h12 := hS.1
  have e2 : (nI c).toNatClampNeg = c := nI_clamp (by omega)
  have vv : vp_in (nI c) 12 := vp_in_nI (by omega) (by omega)
  unfold wpY_policies
  refine ty_bQ hS.1 hc ht ?_
  refine br_t rfl ?_
  refine ty_va hS.1 ?_
  rw [hU]
  refine ty_search hS (fun le st fo co ls ne na pY ro hR => ?_)
  dsimp only
  rw [e2, ty_pol hR (by omega)]
  exact ⟨vv, H U le st fo co ls ne na pY ro⟩
theorem tx_depending {post : Int32 → SX → Prop} {c t : Nat} {U : Int32} (hS : tx_S D sf au li aT aE) (hc : c < tp_m D) (ht : t ≤ 100) (hU : tp_mk (tx_ok gf gt rv he (nI t)) (tp_m D) = U) (H : ∀ aX pa cl nl rl pl, post (nI (tp_cn (tp_tr D U) (tp_m D)) - nI (tp_cn (tp_tr D (U &&& (((1 : Int32) <<< (nI c &&& 31)) ^^^ (-1)))) (tp_m D))) ((nI (tp_m D)), aX, (tp_ie D), (tp_se D), sf, gf, gt, au, li, (tp_al D), (tp_ba D), (tp_po D), rv, he, aT, aE, pa, cl, nl, rl, pl)) : wpX_depending post ((nI (tp_m D)), aX, (tp_ie D), (tp_se D), sf, gf, gt, au, li, (tp_al D), (tp_ba D), (tp_po D), rv, he, aT, aE, pa, cl, nl, rl, pl) (nI c) (nI t) := by
  unfold wpX_depending
  refine tx_isC1 hS.1 hc ?_
  refine br_f (by decide) ?_
  refine tx_isT1 ht ?_
  refine br_f (by decide) ?_
  refine tx_us hS.1 ?_
  rw [hU]
  refine tx_count hS (fun aX' pa' cl' nl' rl' pl' => ?_)
  refine tx_count hS (fun aX2 pa2 cl2 nl2 rl2 pl2 => ?_)
  exact H aX2 pa2 cl2 nl2 rl2 pl2
theorem ty_depending {post : Int32 → SY → Prop} {c t : Nat} {U : Int32} (hS : ty_S D is su ik sk te an) (hc : c < tp_m D) (ht : t ≤ 100) (hU : tp_mk (tx_ok fr tt re hY (nI t)) (tp_m D) = U) (H : ∀ vY le st fo co ls ne na pY ro, post (nI (tp_cn (tp_tr D U) (tp_m D)) - nI (tp_cn (tp_tr D (U &&& (((1 : Int32) <<< (nI c &&& 31)) ^^^ (-1)))) (tp_m D))) ((nI (tp_m D)), vY, is, su, ik, sk, fr, tt, te, re, hY, an, le, st, fo, co, ls, ne, na, pY, ro)) : wpY_depending post ((nI (tp_m D)), vY, is, su, ik, sk, fr, tt, te, re, hY, an, le, st, fo, co, ls, ne, na, pY, ro) (nI c) (nI t) := by
  have h12 := hS.1
  have e2 : (nI c).toNatClampNeg = c := nI_clamp (by omega)
  have vv : vp_in (nI c) 12 := vp_in_nI (by omega) (by omega)
  unfold wpY_depending
  refine ty_bQ hS.1 hc ht ?_
  refine br_t rfl ?_
  refine ty_va hS.1 ?_
  rw [hU]
  refine ty_search hS (fun le st fo co ls ne na pY ro hR => ?_)
  refine ty_count h12 hR ?_
  refine ty_va h12 ?_
  rw [hU]
  refine ty_search hS (fun le2 st2 fo2 co2 ls2 ne2 na2 pY2 ro2 hR2 => ?_)
  refine ty_count h12 hR2 ?_
  exact H _ le2 st2 fo2 co2 ls2 ne2 na2 pY2 ro2
theorem tx_narrow {post : Int32 → SX → Prop} {c t : Nat} {U : Int32} (hS : tx_S D sf au li aT aE) (hc : c < tp_m D) (ht : t ≤ 100) (hU : tp_mk (tx_ok gf gt rv he (nI t)) (tp_m D) = U) (H : ∀ aX pa cl nl rl pl, post (if tp_ln (tp_B D U c) = 0 then -2 else tp_fs (tp_nf D U c) (tp_m D) 0) ((nI (tp_m D)), aX, (tp_ie D), (tp_se D), sf, gf, gt, au, li, (tp_al D), (tp_ba D), (tp_po D), rv, he, aT, aE, pa, cl, nl, rl, pl)) : wpX_narrow post ((nI (tp_m D)), aX, (tp_ie D), (tp_se D), sf, gf, gt, au, li, (tp_al D), (tp_ba D), (tp_po D), rv, he, aT, aE, pa, cl, nl, rl, pl) (nI c) (nI t) := by
  unfold wpX_narrow
  refine tx_isC1 hS.1 hc ?_
  refine br_f (by decide) ?_
  refine tx_isT1 ht ?_
  refine br_f (by decide) ?_
  refine tx_us hS.1 ?_
  rw [hU]
  refine tx_best15 hS hc (fun aX' pa' cl' nl' rl' pl' _ => ?_)
  have h6 := tp_B_le D U c
  by_cases h0 : tp_ln (tp_B D U c) = 0
  · rw [if_pos h0] at H
    exact br_t (by rw [h0]; rfl) (H aX' pa' cl' nl' rl' pl')
  · rw [if_neg h0] at H
    exact br_f (nI_ne0 (by omega) (by omega)) ⟨tp_m D + 1, tx_narrow41 hS hc (tp_m D) 0 aX' pa' cl' nl' rl' pl' _ (by omega) (by omega) H⟩
theorem ty_narrow {post : Int32 → SY → Prop} {c t : Nat} {U : Int32} (hS : ty_S D is su ik sk te an) (hc : c < tp_m D) (ht : t ≤ 100) (hU : tp_mk (tx_ok fr tt re hY (nI t)) (tp_m D) = U) (H : ∀ vY le st fo co ls ne na pY ro, post (if tp_ln (tp_B D U c) = 0 then -2 else tp_fs (tp_nf D U c) (tp_m D) 0) ((nI (tp_m D)), vY, is, su, ik, sk, fr, tt, te, re, hY, an, le, st, fo, co, ls, ne, na, pY, ro)) : wpY_narrow post ((nI (tp_m D)), vY, is, su, ik, sk, fr, tt, te, re, hY, an, le, st, fo, co, ls, ne, na, pY, ro) (nI c) (nI t) := by
  have h12 := hS.1
  have e2 : (nI c).toNatClampNeg = c := nI_clamp (by omega)
  have vv : vp_in (nI c) 12 := vp_in_nI (by omega) (by omega)
  unfold wpY_narrow
  refine ty_bQ hS.1 hc ht ?_
  refine br_t rfl ?_
  refine ty_va hS.1 ?_
  rw [hU]
  refine ty_search hS (fun le st fo co ls ne na pY ro hR => ?_)
  by_cases h0 : tp_ln (tp_B D U c) = 0
  · rw [if_pos h0] at H
    exact ⟨tp_m D + 1, ty_narrow0 h12 hc hR h0 (H U le st fo co ls ne na pY ro) (tp_m D) 0 _ (by omega) (by omega)⟩
  · rw [if_neg h0] at H
    exact ⟨tp_m D + 1, ty_narrow22 h12 hc hR (Nat.pos_of_ne_zero h0) (tp_m D) 0 _ (by omega) (by omega) (H U le st fo co ls ne na pY ro)⟩
theorem tx_until {post : Int32 → SX → Prop} {c t : Nat} {V : Nat → Int32} (hS : tx_S D sf au li aT aE) (hc : c < tp_m D) (ht : t ≤ 100) (hV : ∀ t, t ≤ 100 → V t = tp_mk (tx_ok gf gt rv he (nI t)) (tp_m D)) (H : ∀ aX pa cl nl rl pl, post (tp_un (tp_ug D V c) (101 - t) t (-2)) ((nI (tp_m D)), aX, (tp_ie D), (tp_se D), sf, gf, gt, au, li, (tp_al D), (tp_ba D), (tp_po D), rv, he, aT, aE, pa, cl, nl, rl, pl)) : wpX_until post ((nI (tp_m D)), aX, (tp_ie D), (tp_se D), sf, gf, gt, au, li, (tp_al D), (tp_ba D), (tp_po D), rv, he, aT, aE, pa, cl, nl, rl, pl) (nI c) (nI t) := by
  unfold wpX_until
  refine tx_isC1 hS.1 hc ?_
  refine br_f (by decide) ?_
  refine tx_isT1 ht ?_
  refine br_f (by decide) ?_
  exact ⟨102, tx_until24 hS hc hV (101 - t) t (-2) aX pa cl nl rl pl 102 (by omega) (by omega) H⟩
theorem ty_until {post : Int32 → SY → Prop} {c t : Nat} {V : Nat → Int32} (hS : ty_S D is su ik sk te an) (hc : c < tp_m D) (ht : t ≤ 100) (hV : ∀ t, t ≤ 100 → V t = tp_mk (tx_ok fr tt re hY (nI t)) (tp_m D)) (H : ∀ vY le st fo co ls ne na pY ro, post (tp_un (tp_ug D V c) (101 - t) t (-2)) ((nI (tp_m D)), vY, is, su, ik, sk, fr, tt, te, re, hY, an, le, st, fo, co, ls, ne, na, pY, ro)) : wpY_until post ((nI (tp_m D)), vY, is, su, ik, sk, fr, tt, te, re, hY, an, le, st, fo, co, ls, ne, na, pY, ro) (nI c) (nI t) := by
  have h12 := hS.1
  have e2 : (nI c).toNatClampNeg = c := nI_clamp (by omega)
  have vv : vp_in (nI c) 12 := vp_in_nI (by omega) (by omega)
  unfold wpY_until
  refine ty_bQ hS.1 hc ht ?_
  refine br_t rfl ?_
  exact ⟨102, ty_until20 hS hc hV (101 - t) t (-2) (-1) vY le st fo co ls ne na pY ro 102 (by omega) (by omega) (Or.inl rfl) H⟩
theorem tx_cnt {post : Int32 → SX → Prop} {t : Nat} {U : Int32} (hS : tx_S D sf au li aT aE) (ht : t ≤ 100) (hU : tp_mk (tx_ok gf gt rv he (nI t)) (tp_m D) = U) (H : ∀ aX pa cl nl rl pl, post (nI (tp_cn (tp_tr D U) (tp_m D))) ((nI (tp_m D)), aX, (tp_ie D), (tp_se D), sf, gf, gt, au, li, (tp_al D), (tp_ba D), (tp_po D), rv, he, aT, aE, pa, cl, nl, rl, pl)) : wpX_count post ((nI (tp_m D)), aX, (tp_ie D), (tp_se D), sf, gf, gt, au, li, (tp_al D), (tp_ba D), (tp_po D), rv, he, aT, aE, pa, cl, nl, rl, pl) (nI t) := by
  unfold wpX_count
  refine tx_isT1 ht ?_
  refine br_f (by decide) ?_
  refine tx_us hS.1 ?_
  rw [hU]
  refine tx_count hS (fun aX' pa' cl' nl' rl' pl' => ?_)
  exact H aX' pa' cl' nl' rl' pl'
theorem tx_cnt_t {post : Int32 → SX → Prop} {v : Int32} (hb : v < 0 ∨ nI 101 ≤ v) (h : post (-1) ((nI (tp_m D)), aX, (tp_ie D), (tp_se D), sf, gf, gt, au, li, (tp_al D), (tp_ba D), (tp_po D), rv, he, aT, aE, pa, cl, nl, rl, pl)) : wpX_count post ((nI (tp_m D)), aX, (tp_ie D), (tp_se D), sf, gf, gt, au, li, (tp_al D), (tp_ba D), (tp_po D), rv, he, aT, aE, pa, cl, nl, rl, pl) v := by
  unfold wpX_count
  refine tx_isT0 hb ?_
  exact br_t rfl h
theorem ty_cnt {post : Int32 → SY → Prop} {t : Nat} {U : Int32} (hS : ty_S D is su ik sk te an) (ht : t ≤ 100) (hU : tp_mk (tx_ok fr tt re hY (nI t)) (tp_m D) = U) (H : ∀ vY le st fo co ls ne na pY ro, post (nI (tp_cn (tp_tr D U) (tp_m D))) ((nI (tp_m D)), vY, is, su, ik, sk, fr, tt, te, re, hY, an, le, st, fo, co, ls, ne, na, pY, ro)) : wpY_count post ((nI (tp_m D)), vY, is, su, ik, sk, fr, tt, te, re, hY, an, le, st, fo, co, ls, ne, na, pY, ro) (nI t) := by
  unfold wpY_count
  refine ty_bT1 ht ?_
  refine br_t rfl ?_
  refine ty_va hS.1 ?_
  rw [hU]
  refine ty_search hS (fun le st fo co ls ne na pY ro hR => ?_)
  refine ty_count hS.1 hR ?_
  exact H U le st fo co ls ne na pY ro
theorem ty_cnt_t {post : Int32 → SY → Prop} {v : Int32} (hb : v < 0 ∨ nI 101 ≤ v) (h : post (-1) ((nI (tp_m D)), vY, is, su, ik, sk, fr, tt, te, re, hY, an, le, st, fo, co, ls, ne, na, pY, ro)) : wpY_count post ((nI (tp_m D)), vY, is, su, ik, sk, fr, tt, te, re, hY, an, le, st, fo, co, ls, ne, na, pY, ro) v := by
  unfold wpY_count
  refine ty_bT0 hb ?_
  exact br_f (by decide) h
theorem vq_7 {x : Int32} (h : nI 8 ≤ x) : (7 : Int32) < x := Int32.lt_of_lt_of_le (by decide) h
theorem vq_3 {x : Int32} (h : nI 4 ≤ x) : (3 : Int32) < x := Int32.lt_of_lt_of_le (by decide) h
theorem tx_keys_n {post : Int32 → SX → Prop} {v1 v2 v3 : Int32} (hb : v1 < 0 ∨ nI 8 ≤ v1) (h : post (-1) ((nI (tp_m D)), aX, (tp_ie D), (tp_se D), sf, gf, gt, au, li, (tp_al D), (tp_ba D), (tp_po D), rv, he, aT, aE, pa, cl, nl, rl, pl)) : wpX_keysOf post ((nI (tp_m D)), aX, (tp_ie D), (tp_se D), sf, gf, gt, au, li, (tp_al D), (tp_ba D), (tp_po D), rv, he, aT, aE, pa, cl, nl, rl, pl) v1 v2 v3 := by
  unfold wpX_keysOf
  by_cases z : v1 < 0
  · exact br_t z h
  · exact br_f z (br_t (hb.resolve_left z) h)
theorem ty_keys_n {post : Int32 → SY → Prop} {v1 v2 v3 : Int32} (hb : v1 < 0 ∨ nI 8 ≤ v1) (h : post (-1) ((nI (tp_m D)), vY, is, su, ik, sk, fr, tt, te, re, hY, an, le, st, fo, co, ls, ne, na, pY, ro)) : wpY_keysOf post ((nI (tp_m D)), vY, is, su, ik, sk, fr, tt, te, re, hY, an, le, st, fo, co, ls, ne, na, pY, ro) v1 v2 v3 := by
  unfold wpY_keysOf
  by_cases z : v1 < 0
  · exact br_t z h
  · exact br_f z (br_t (vq_7 (hb.resolve_left z)) h)
theorem tx_keys_t {post : Int32 → SX → Prop} {v2 v3 : Int32} {a : Nat} (ha : a < 8) (hb : v2 < 0 ∨ nI 101 ≤ v2) (h : post (-1) ((nI (tp_m D)), aX, (tp_ie D), (tp_se D), sf, gf, gt, au, li, (tp_al D), (tp_ba D), (tp_po D), rv, he, aT, aE, pa, cl, nl, rl, pl)) : wpX_keysOf post ((nI (tp_m D)), aX, (tp_ie D), (tp_se D), sf, gf, gt, au, li, (tp_al D), (tp_ba D), (tp_po D), rv, he, aT, aE, pa, cl, nl, rl, pl) (nI a) v2 v3 := by
  unfold wpX_keysOf
  refine br_f (nI_pos (by omega)) (br_f (nI_ge (b := 8) ha (by omega)) ?_)
  refine tx_isT0 hb ?_
  exact br_t rfl h
theorem ty_keys_t {post : Int32 → SY → Prop} {v2 v3 : Int32} {a : Nat} (ha : a < 8) (hb : v2 < 0 ∨ nI 101 ≤ v2) (h : post (-1) ((nI (tp_m D)), vY, is, su, ik, sk, fr, tt, te, re, hY, an, le, st, fo, co, ls, ne, na, pY, ro)) : wpY_keysOf post ((nI (tp_m D)), vY, is, su, ik, sk, fr, tt, te, re, hY, an, le, st, fo, co, ls, ne, na, pY, ro) (nI a) v2 v3 := by
  unfold wpY_keysOf
  refine br_f (nI_pos (by omega)) (br_f (nI_nlt (a := 7) (by omega) (by omega)) ?_)
  refine ty_bT0 hb ?_
  exact br_f (by decide) h
theorem tx_keys_p {post : Int32 → SX → Prop} {v3 : Int32} {a t : Nat} (ha : a < 8) (ht : t ≤ 100) (hb : v3 < 0 ∨ nI 4 ≤ v3) (h : post (-1) ((nI (tp_m D)), aX, (tp_ie D), (tp_se D), sf, gf, gt, au, li, (tp_al D), (tp_ba D), (tp_po D), rv, he, aT, aE, pa, cl, nl, rl, pl)) : wpX_keysOf post ((nI (tp_m D)), aX, (tp_ie D), (tp_se D), sf, gf, gt, au, li, (tp_al D), (tp_ba D), (tp_po D), rv, he, aT, aE, pa, cl, nl, rl, pl) (nI a) (nI t) v3 := by
  unfold wpX_keysOf
  refine br_f (nI_pos (by omega)) (br_f (nI_ge (b := 8) ha (by omega)) ?_)
  refine tx_isT1 ht ?_
  refine br_f (by decide) ?_
  by_cases z : v3 < 0
  · exact br_t z h
  · exact br_f z (br_f (Int32.not_lt.mpr (hb.resolve_left z)) h)
theorem ty_keys_p {post : Int32 → SY → Prop} {v3 : Int32} {a t : Nat} (ha : a < 8) (ht : t ≤ 100) (hb : v3 < 0 ∨ nI 4 ≤ v3) (h : post (-1) ((nI (tp_m D)), vY, is, su, ik, sk, fr, tt, te, re, hY, an, le, st, fo, co, ls, ne, na, pY, ro)) : wpY_keysOf post ((nI (tp_m D)), vY, is, su, ik, sk, fr, tt, te, re, hY, an, le, st, fo, co, ls, ne, na, pY, ro) (nI a) (nI t) v3 := by
  unfold wpY_keysOf
  refine br_f (nI_pos (by omega)) (br_f (nI_nlt (a := 7) (by omega) (by omega)) ?_)
  refine ty_bT1 ht ?_
  refine br_t rfl ?_
  by_cases z : v3 < 0
  · exact br_t z h
  · exact br_f z (br_f (Int32.not_le.mpr (vq_3 (hb.resolve_left z))) h)
theorem tx_keys {post : Int32 → SX → Prop} {a t p : Nat} {U : Int32} (hS : tx_S D sf au li aT aE) (ha : a < 8) (ht : t ≤ 100) (hp : p < 4) (hU : tp_mk (tx_ok gf gt rv he (nI t)) (tp_m D) = U) (H : ∀ aX pa cl nl rl pl, post (tp_ks (tp_kf D U (nI a) p) (tp_kx D) (tp_m D)) ((nI (tp_m D)), aX, (tp_ie D), (tp_se D), sf, gf, gt, au, li, (tp_al D), (tp_ba D), (tp_po D), rv, he, aT, aE, pa, cl, nl, rl, pl)) : wpX_keysOf post ((nI (tp_m D)), aX, (tp_ie D), (tp_se D), sf, gf, gt, au, li, (tp_al D), (tp_ba D), (tp_po D), rv, he, aT, aE, pa, cl, nl, rl, pl) (nI a) (nI t) (nI p) := by
  unfold wpX_keysOf
  refine br_f (nI_pos (by omega)) (br_f (nI_ge (b := 8) ha (by omega)) ?_)
  refine tx_isT1 ht ?_
  refine br_f (by decide) (br_f (nI_pos (by omega)) (br_t (nI_lt (b := 4) hp (by omega)) ?_))
  refine tx_us hS.1 ?_
  rw [hU]
  exact ⟨tp_m D + 1, tx_keys42 hS hp H (tp_m D) 0 aX pa cl nl rl pl _ (by omega) (by omega)⟩
theorem ty_keys {post : Int32 → SY → Prop} {a t p : Nat} {U : Int32} (hS : ty_S D is su ik sk te an) (hk : ∀ c, c < tp_m D → sk c = tp_kx D c) (ha : a < 8) (ht : t ≤ 100) (hp : p < 4) (hU : tp_mk (tx_ok fr tt re hY (nI t)) (tp_m D) = U) (H : ∀ vY le st fo co ls ne na pY ro, post (tp_ks (tp_kf D U (nI a) p) (tp_kx D) (tp_m D)) ((nI (tp_m D)), vY, is, su, ik, sk, fr, tt, te, re, hY, an, le, st, fo, co, ls, ne, na, pY, ro)) : wpY_keysOf post ((nI (tp_m D)), vY, is, su, ik, sk, fr, tt, te, re, hY, an, le, st, fo, co, ls, ne, na, pY, ro) (nI a) (nI t) (nI p) := by
  unfold wpY_keysOf
  refine br_f (nI_pos (by omega)) (br_f (nI_nlt (a := 7) (by omega) (by omega)) ?_)
  refine ty_bT1 ht ?_
  refine br_t rfl (br_f (nI_pos (by omega)) (br_t (nI_le (b := 3) (by omega) (by omega)) ?_))
  refine ty_va hS.1 ?_
  rw [hU]
  refine ty_search hS (fun le st fo co ls ne na pY ro hR => ?_)
  exact ⟨tp_m D + 1, ty_keys44 hS hk hp hR (H U le st fo co ls ne na pY ro) (tp_m D) 0 _ (by omega) (by omega)⟩
end
end
section
/-! the questions of both sides together: Q is whatever holds of related states, whatever the searches left behind -/
def vq_H (D : tp_D) (sf gf gt au li rv he aT aE is su ik sk fr tt te re hY an : Nat → Int32) : Prop :=
  tx_S D sf au li aT aE ∧ ty_S D is su ik sk te an ∧ (∀ c, c < tp_m D → sk c = tp_kx D c) ∧ (∀ t, t ≤ 100 → tp_mk (tx_ok fr tt re hY (nI t)) (tp_m D) = tp_mk (tx_ok gf gt rv he (nI t)) (tp_m D))
section
variable {D : tp_D} {aX : Int32} {sf gf gt au li rv he aT aE pa cl nl rl pl : Nat → Int32} {vY : Int32} {is su ik sk fr tt te re hY an le st fo co ls ne na pY ro : Nat → Int32} {Q : SX → SY → Prop}
theorem vq_trusted (h : vq_H D sf gf gt au li rv he aT aE is su ik sk fr tt te re hY an) (hQ : ∀ aX pa cl nl rl pl vY le st fo co ls ne na pY ro, Q ((nI (tp_m D)), aX, (tp_ie D), (tp_se D), sf, gf, gt, au, li, (tp_al D), (tp_ba D), (tp_po D), rv, he, aT, aE, pa, cl, nl, rl, pl) ((nI (tp_m D)), vY, is, su, ik, sk, fr, tt, te, re, hY, an, le, st, fo, co, ls, ne, na, pY, ro)) (v1 v2 : Int32) : wpX_trusted (fun r u => wpY_trusted (fun r' v => r' = r ∧ Q u v) ((nI (tp_m D)), vY, is, su, ik, sk, fr, tt, te, re, hY, an, le, st, fo, co, ls, ne, na, pY, ro) v1 v2) ((nI (tp_m D)), aX, (tp_ie D), (tp_se D), sf, gf, gt, au, li, (tp_al D), (tp_ba D), (tp_po D), rv, he, aT, aE, pa, cl, nl, rl, pl) v1 v2 := by
  obtain ⟨hS, hT, hk, hV⟩ := h
  rcases vq_cert v1 hS.1 with hb | ⟨c, hc, rfl⟩
  · refine tx_trusted_c hb ?_
    refine ty_trusted_c hb ?_
    exact ⟨rfl, hQ _ _ _ _ _ _ _ _ _ _ _ _ _ _ _ _⟩
  rcases vq_time v2 with hb | ⟨t, ht, rfl⟩
  · refine tx_trusted_t hS.1 hc hb ?_
    refine ty_trusted_t hS.1 hc hb ?_
    exact ⟨rfl, hQ _ _ _ _ _ _ _ _ _ _ _ _ _ _ _ _⟩
  refine tx_trusted hS hc ht rfl (fun aX pa cl nl rl pl => ?_)
  refine ty_trusted hT hc ht (hV t ht) (fun vY le st fo co ls ne na pY ro => ?_)
  exact ⟨rfl, hQ _ _ _ _ _ _ _ _ _ _ _ _ _ _ _ _⟩
theorem vq_length (h : vq_H D sf gf gt au li rv he aT aE is su ik sk fr tt te re hY an) (hQ : ∀ aX pa cl nl rl pl vY le st fo co ls ne na pY ro, Q ((nI (tp_m D)), aX, (tp_ie D), (tp_se D), sf, gf, gt, au, li, (tp_al D), (tp_ba D), (tp_po D), rv, he, aT, aE, pa, cl, nl, rl, pl) ((nI (tp_m D)), vY, is, su, ik, sk, fr, tt, te, re, hY, an, le, st, fo, co, ls, ne, na, pY, ro)) (v1 v2 : Int32) : wpX_length (fun r u => wpY_length (fun r' v => r' = r ∧ Q u v) ((nI (tp_m D)), vY, is, su, ik, sk, fr, tt, te, re, hY, an, le, st, fo, co, ls, ne, na, pY, ro) v1 v2) ((nI (tp_m D)), aX, (tp_ie D), (tp_se D), sf, gf, gt, au, li, (tp_al D), (tp_ba D), (tp_po D), rv, he, aT, aE, pa, cl, nl, rl, pl) v1 v2 := by
  obtain ⟨hS, hT, hk, hV⟩ := h
  rcases vq_cert v1 hS.1 with hb | ⟨c, hc, rfl⟩
  · refine tx_length_c hb ?_
    refine ty_length_c hb ?_
    exact ⟨rfl, hQ _ _ _ _ _ _ _ _ _ _ _ _ _ _ _ _⟩
  rcases vq_time v2 with hb | ⟨t, ht, rfl⟩
  · refine tx_length_t hS.1 hc hb ?_
    refine ty_length_t hS.1 hc hb ?_
    exact ⟨rfl, hQ _ _ _ _ _ _ _ _ _ _ _ _ _ _ _ _⟩
  refine tx_length hS hc ht rfl (fun aX pa cl nl rl pl => ?_)
  refine ty_length hT hc ht (hV t ht) (fun vY le st fo co ls ne na pY ro => ?_)
  exact ⟨rfl, hQ _ _ _ _ _ _ _ _ _ _ _ _ _ _ _ _⟩
theorem vq_policies (h : vq_H D sf gf gt au li rv he aT aE is su ik sk fr tt te re hY an) (hQ : ∀ aX pa cl nl rl pl vY le st fo co ls ne na pY ro, Q ((nI (tp_m D)), aX, (tp_ie D), (tp_se D), sf, gf, gt, au, li, (tp_al D), (tp_ba D), (tp_po D), rv, he, aT, aE, pa, cl, nl, rl, pl) ((nI (tp_m D)), vY, is, su, ik, sk, fr, tt, te, re, hY, an, le, st, fo, co, ls, ne, na, pY, ro)) (v1 v2 : Int32) : wpX_policies (fun r u => wpY_policies (fun r' v => r' = r ∧ Q u v) ((nI (tp_m D)), vY, is, su, ik, sk, fr, tt, te, re, hY, an, le, st, fo, co, ls, ne, na, pY, ro) v1 v2) ((nI (tp_m D)), aX, (tp_ie D), (tp_se D), sf, gf, gt, au, li, (tp_al D), (tp_ba D), (tp_po D), rv, he, aT, aE, pa, cl, nl, rl, pl) v1 v2 := by
  obtain ⟨hS, hT, hk, hV⟩ := h
  rcases vq_cert v1 hS.1 with hb | ⟨c, hc, rfl⟩
  · refine tx_policies_c hb ?_
    refine ty_policies_c hb ?_
    exact ⟨rfl, hQ _ _ _ _ _ _ _ _ _ _ _ _ _ _ _ _⟩
  rcases vq_time v2 with hb | ⟨t, ht, rfl⟩
  · refine tx_policies_t hS.1 hc hb ?_
    refine ty_policies_t hS.1 hc hb ?_
    exact ⟨rfl, hQ _ _ _ _ _ _ _ _ _ _ _ _ _ _ _ _⟩
  refine tx_policies hS hc ht rfl (fun aX pa cl nl rl pl => ?_)
  refine ty_policies hT hc ht (hV t ht) (fun vY le st fo co ls ne na pY ro => ?_)
  exact ⟨rfl, hQ _ _ _ _ _ _ _ _ _ _ _ _ _ _ _ _⟩
theorem vq_depending (h : vq_H D sf gf gt au li rv he aT aE is su ik sk fr tt te re hY an) (hQ : ∀ aX pa cl nl rl pl vY le st fo co ls ne na pY ro, Q ((nI (tp_m D)), aX, (tp_ie D), (tp_se D), sf, gf, gt, au, li, (tp_al D), (tp_ba D), (tp_po D), rv, he, aT, aE, pa, cl, nl, rl, pl) ((nI (tp_m D)), vY, is, su, ik, sk, fr, tt, te, re, hY, an, le, st, fo, co, ls, ne, na, pY, ro)) (v1 v2 : Int32) : wpX_depending (fun r u => wpY_depending (fun r' v => r' = r ∧ Q u v) ((nI (tp_m D)), vY, is, su, ik, sk, fr, tt, te, re, hY, an, le, st, fo, co, ls, ne, na, pY, ro) v1 v2) ((nI (tp_m D)), aX, (tp_ie D), (tp_se D), sf, gf, gt, au, li, (tp_al D), (tp_ba D), (tp_po D), rv, he, aT, aE, pa, cl, nl, rl, pl) v1 v2 := by
  obtain ⟨hS, hT, hk, hV⟩ := h
  rcases vq_cert v1 hS.1 with hb | ⟨c, hc, rfl⟩
  · refine tx_depending_c hb ?_
    refine ty_depending_c hb ?_
    exact ⟨rfl, hQ _ _ _ _ _ _ _ _ _ _ _ _ _ _ _ _⟩
  rcases vq_time v2 with hb | ⟨t, ht, rfl⟩
  · refine tx_depending_t hS.1 hc hb ?_
    refine ty_depending_t hS.1 hc hb ?_
    exact ⟨rfl, hQ _ _ _ _ _ _ _ _ _ _ _ _ _ _ _ _⟩
  refine tx_depending hS hc ht rfl (fun aX pa cl nl rl pl => ?_)
  refine ty_depending hT hc ht (hV t ht) (fun vY le st fo co ls ne na pY ro => ?_)
  exact ⟨rfl, hQ _ _ _ _ _ _ _ _ _ _ _ _ _ _ _ _⟩
theorem vq_narrow (h : vq_H D sf gf gt au li rv he aT aE is su ik sk fr tt te re hY an) (hQ : ∀ aX pa cl nl rl pl vY le st fo co ls ne na pY ro, Q ((nI (tp_m D)), aX, (tp_ie D), (tp_se D), sf, gf, gt, au, li, (tp_al D), (tp_ba D), (tp_po D), rv, he, aT, aE, pa, cl, nl, rl, pl) ((nI (tp_m D)), vY, is, su, ik, sk, fr, tt, te, re, hY, an, le, st, fo, co, ls, ne, na, pY, ro)) (v1 v2 : Int32) : wpX_narrow (fun r u => wpY_narrow (fun r' v => r' = r ∧ Q u v) ((nI (tp_m D)), vY, is, su, ik, sk, fr, tt, te, re, hY, an, le, st, fo, co, ls, ne, na, pY, ro) v1 v2) ((nI (tp_m D)), aX, (tp_ie D), (tp_se D), sf, gf, gt, au, li, (tp_al D), (tp_ba D), (tp_po D), rv, he, aT, aE, pa, cl, nl, rl, pl) v1 v2 := by
  obtain ⟨hS, hT, hk, hV⟩ := h
  rcases vq_cert v1 hS.1 with hb | ⟨c, hc, rfl⟩
  · refine tx_narrow_c hb ?_
    refine ty_narrow_c hb ?_
    exact ⟨rfl, hQ _ _ _ _ _ _ _ _ _ _ _ _ _ _ _ _⟩
  rcases vq_time v2 with hb | ⟨t, ht, rfl⟩
  · refine tx_narrow_t hS.1 hc hb ?_
    refine ty_narrow_t hS.1 hc hb ?_
    exact ⟨rfl, hQ _ _ _ _ _ _ _ _ _ _ _ _ _ _ _ _⟩
  refine tx_narrow hS hc ht rfl (fun aX pa cl nl rl pl => ?_)
  refine ty_narrow hT hc ht (hV t ht) (fun vY le st fo co ls ne na pY ro => ?_)
  exact ⟨rfl, hQ _ _ _ _ _ _ _ _ _ _ _ _ _ _ _ _⟩
theorem vq_until (h : vq_H D sf gf gt au li rv he aT aE is su ik sk fr tt te re hY an) (hQ : ∀ aX pa cl nl rl pl vY le st fo co ls ne na pY ro, Q ((nI (tp_m D)), aX, (tp_ie D), (tp_se D), sf, gf, gt, au, li, (tp_al D), (tp_ba D), (tp_po D), rv, he, aT, aE, pa, cl, nl, rl, pl) ((nI (tp_m D)), vY, is, su, ik, sk, fr, tt, te, re, hY, an, le, st, fo, co, ls, ne, na, pY, ro)) (v1 v2 : Int32) : wpX_until (fun r u => wpY_until (fun r' v => r' = r ∧ Q u v) ((nI (tp_m D)), vY, is, su, ik, sk, fr, tt, te, re, hY, an, le, st, fo, co, ls, ne, na, pY, ro) v1 v2) ((nI (tp_m D)), aX, (tp_ie D), (tp_se D), sf, gf, gt, au, li, (tp_al D), (tp_ba D), (tp_po D), rv, he, aT, aE, pa, cl, nl, rl, pl) v1 v2 := by
  obtain ⟨hS, hT, hk, hV⟩ := h
  rcases vq_cert v1 hS.1 with hb | ⟨c, hc, rfl⟩
  · refine tx_until_c hb ?_
    refine ty_until_c hb ?_
    exact ⟨rfl, hQ _ _ _ _ _ _ _ _ _ _ _ _ _ _ _ _⟩
  rcases vq_time v2 with hb | ⟨t, ht, rfl⟩
  · refine tx_until_t hS.1 hc hb ?_
    refine ty_until_t hS.1 hc hb ?_
    exact ⟨rfl, hQ _ _ _ _ _ _ _ _ _ _ _ _ _ _ _ _⟩
  refine tx_until (V := fun t => tp_mk (tx_ok gf gt rv he (nI t)) (tp_m D)) hS hc ht (fun t _ => rfl) (fun aX pa cl nl rl pl => ?_)
  refine ty_until (V := fun t => tp_mk (tx_ok gf gt rv he (nI t)) (tp_m D)) hT hc ht (fun t ht => (hV t ht).symm) (fun vY le st fo co ls ne na pY ro => ?_)
  exact ⟨rfl, hQ _ _ _ _ _ _ _ _ _ _ _ _ _ _ _ _⟩
theorem vq_no {D : tp_D} {U v : Int32} {c i : Nat} {q : List Nat} (h0 : v < 0 ∨ nI (tp_ln (tp_B D U c)) ≤ v) (e : v = nI i) (hb : tp_B D U c = some q) (hi : i < q.length) : False := by
  have h6 := tp_B_le D U c
  rw [hb] at h0 h6
  have h7 : q.length ≤ 6 := h6
  rcases h0 with h0 | h0
  · rw [e] at h0
    exact nI_pos (by omega) h0
  · rw [e] at h0
    have h8 : nI q.length ≤ nI i := h0
    rw [nI_leI (by omega) (by omega)] at h8
    omega
theorem vq_step (h : vq_H D sf gf gt au li rv he aT aE is su ik sk fr tt te re hY an) (hQ : ∀ aX pa cl nl rl pl vY le st fo co ls ne na pY ro, Q ((nI (tp_m D)), aX, (tp_ie D), (tp_se D), sf, gf, gt, au, li, (tp_al D), (tp_ba D), (tp_po D), rv, he, aT, aE, pa, cl, nl, rl, pl) ((nI (tp_m D)), vY, is, su, ik, sk, fr, tt, te, re, hY, an, le, st, fo, co, ls, ne, na, pY, ro)) (v1 v2 v3 : Int32) : wpX_step (fun r u => wpY_step (fun r' v => r' = r ∧ Q u v) ((nI (tp_m D)), vY, is, su, ik, sk, fr, tt, te, re, hY, an, le, st, fo, co, ls, ne, na, pY, ro) v1 v2 v3) ((nI (tp_m D)), aX, (tp_ie D), (tp_se D), sf, gf, gt, au, li, (tp_al D), (tp_ba D), (tp_po D), rv, he, aT, aE, pa, cl, nl, rl, pl) v1 v2 v3 := by
  obtain ⟨hS, hT, hk, hV⟩ := h
  rcases vq_cert v1 hS.1 with hb | ⟨c, hc, rfl⟩
  · refine tx_step_c hb ?_
    refine ty_step_c hb ?_
    exact ⟨rfl, hQ _ _ _ _ _ _ _ _ _ _ _ _ _ _ _ _⟩
  rcases vq_time v2 with hb | ⟨t, ht, rfl⟩
  · refine tx_step_t hS.1 hc hb ?_
    refine ty_step_t hS.1 hc hb ?_
    exact ⟨rfl, hQ _ _ _ _ _ _ _ _ _ _ _ _ _ _ _ _⟩
  refine tx_step hS hc ht rfl (fun h0 aX pa cl nl rl pl => ?_) (fun i q e hb hi aX pa cl nl rl pl hpa => ?_)
  · refine ty_step hT hc ht (hV t ht) (fun _ vY le st fo co ls ne na pY ro => ?_) (fun i q e hb hi vY le st fo co ls ne na pY ro _ => ?_)
    · exact ⟨rfl, hQ _ _ _ _ _ _ _ _ _ _ _ _ _ _ _ _⟩
    · exact absurd (vq_no h0 e hb hi) id
  · refine ty_step hT hc ht (hV t ht) (fun h0 vY le st fo co ls ne na pY ro => ?_) (fun i2 q2 e2 hb2 hi2 vY le st fo co ls ne na pY ro hst => ?_)
    · exact absurd (vq_no h0 e hb hi) id
    · have h6 := tp_B_le D (tp_mk (tx_ok gf gt rv he (nI t)) (tp_m D)) c
      rw [hb] at hb2 h6
      have h7 : q.length ≤ 6 := h6
      have eq : q = q2 := Option.some.inj hb2
      rw [← eq] at hst hi2
      have ei : i = i2 := (nI_eq (by omega) (by omega)).mp (e.symm.trans e2)
      rw [← ei]
      exact ⟨(tp_st_two q hpa hst i hi).symm, hQ _ _ _ _ _ _ _ _ _ _ _ _ _ _ _ _⟩
theorem vq_count (h : vq_H D sf gf gt au li rv he aT aE is su ik sk fr tt te re hY an) (hQ : ∀ aX pa cl nl rl pl vY le st fo co ls ne na pY ro, Q ((nI (tp_m D)), aX, (tp_ie D), (tp_se D), sf, gf, gt, au, li, (tp_al D), (tp_ba D), (tp_po D), rv, he, aT, aE, pa, cl, nl, rl, pl) ((nI (tp_m D)), vY, is, su, ik, sk, fr, tt, te, re, hY, an, le, st, fo, co, ls, ne, na, pY, ro)) (v1 : Int32) : wpX_count (fun r u => wpY_count (fun r' v => r' = r ∧ Q u v) ((nI (tp_m D)), vY, is, su, ik, sk, fr, tt, te, re, hY, an, le, st, fo, co, ls, ne, na, pY, ro) v1) ((nI (tp_m D)), aX, (tp_ie D), (tp_se D), sf, gf, gt, au, li, (tp_al D), (tp_ba D), (tp_po D), rv, he, aT, aE, pa, cl, nl, rl, pl) v1 := by
  obtain ⟨hS, hT, hk, hV⟩ := h
  rcases vq_time v1 with hb | ⟨t, ht, rfl⟩
  · refine tx_cnt_t hb ?_
    refine ty_cnt_t hb ?_
    exact ⟨rfl, hQ _ _ _ _ _ _ _ _ _ _ _ _ _ _ _ _⟩
  refine tx_cnt hS ht rfl (fun aX pa cl nl rl pl => ?_)
  refine ty_cnt hT ht (hV t ht) (fun vY le st fo co ls ne na pY ro => ?_)
  exact ⟨rfl, hQ _ _ _ _ _ _ _ _ _ _ _ _ _ _ _ _⟩
theorem vq_keysOf (h : vq_H D sf gf gt au li rv he aT aE is su ik sk fr tt te re hY an) (hQ : ∀ aX pa cl nl rl pl vY le st fo co ls ne na pY ro, Q ((nI (tp_m D)), aX, (tp_ie D), (tp_se D), sf, gf, gt, au, li, (tp_al D), (tp_ba D), (tp_po D), rv, he, aT, aE, pa, cl, nl, rl, pl) ((nI (tp_m D)), vY, is, su, ik, sk, fr, tt, te, re, hY, an, le, st, fo, co, ls, ne, na, pY, ro)) (v1 v2 v3 : Int32) : wpX_keysOf (fun r u => wpY_keysOf (fun r' v => r' = r ∧ Q u v) ((nI (tp_m D)), vY, is, su, ik, sk, fr, tt, te, re, hY, an, le, st, fo, co, ls, ne, na, pY, ro) v1 v2 v3) ((nI (tp_m D)), aX, (tp_ie D), (tp_se D), sf, gf, gt, au, li, (tp_al D), (tp_ba D), (tp_po D), rv, he, aT, aE, pa, cl, nl, rl, pl) v1 v2 v3 := by
  obtain ⟨hS, hT, hk, hV⟩ := h
  rcases vq_cert v1 (m := 8) (by omega) with hb | ⟨a, ha, rfl⟩
  · refine tx_keys_n hb ?_
    refine ty_keys_n hb ?_
    exact ⟨rfl, hQ _ _ _ _ _ _ _ _ _ _ _ _ _ _ _ _⟩
  rcases vq_time v2 with hb | ⟨t, ht, rfl⟩
  · refine tx_keys_t ha hb ?_
    refine ty_keys_t ha hb ?_
    exact ⟨rfl, hQ _ _ _ _ _ _ _ _ _ _ _ _ _ _ _ _⟩
  rcases vq_cert v3 (m := 4) (by omega) with hb | ⟨p, hp, rfl⟩
  · refine tx_keys_p ha ht hb ?_
    refine ty_keys_p ha ht hb ?_
    exact ⟨rfl, hQ _ _ _ _ _ _ _ _ _ _ _ _ _ _ _ _⟩
  refine tx_keys hS ha ht hp rfl (fun aX pa cl nl rl pl => ?_)
  refine ty_keys hT hk ha ht hp (hV t ht) (fun vY le st fo co ls ne na pY ro => ?_)
  exact ⟨rfl, hQ _ _ _ _ _ _ _ _ _ _ _ _ _ _ _ _⟩
end
end
section
/-! the relation -/
theorem tn_0 : vp_nar .boolean 0 = 0 := rfl
theorem tn_1 : vp_nar .boolean 1 = 1 := rfl
def tr_E (ie se sf is su ik sk : Nat → Int32) (c : Nat) : Prop := ∃ i s p q : Nat, i < 8 ∧ s < 8 ∧ p < 10 ∧ q < 10 ∧ is c = nI i ∧ su c = nI s ∧ ik c = nI p ∧ sk c = nI q ∧ ie c = nI (10 * i + p) ∧ se c = nI (10 * s + q) ∧ (sf c = 0 ↔ ¬ i = s)
def tr_T (au li al ba po te : Nat → Int32) (c : Nat) : Prop := te (5 * c) = au c ∧ (au c = 0 ∨ au c = 1) ∧ te (5 * c + 1) = li c ∧ (∃ q : Nat, q ≤ 4 ∧ li c = nI q) ∧ te (5 * c + 2) = al c ∧ te (5 * c + 3) = ba c ∧ te (5 * c + 4) = po c
def tr_V (rv re : Nat → Int32) (c : Nat) : Prop := (rv c = 101 ∧ re c = 1000) ∨ ∃ t : Nat, t ≤ 100 ∧ rv c = nI t ∧ re c = nI t
def tr_A (aT aE an : Nat → Int32) (a : Nat) : Prop := (aT a = 0 ∧ an a = -1) ∨ (¬ aT a = 0 ∧ ∃ e : Nat, e < 80 ∧ aE a = nI e ∧ an a = nI e)
def tr_R (mX mY : Int32) (ie se sf gf gt au li al ba po rv he aT aE is su ik sk fr tt te re hY an : Nat → Int32) : Prop :=
  ∃ m : Nat, m ≤ 12 ∧ mX = nI m ∧ mY = nI m ∧ gf = fr ∧ gt = tt ∧ he = hY ∧ (∀ c, m ≤ c → he c = 0) ∧ (∀ c, c < m → tr_E ie se sf is su ik sk c) ∧ (∀ c, c < m → tr_T au li al ba po te c) ∧ (∀ c, c < m → tr_V rv re c) ∧ (∀ a, a < 3 → tr_A aT aE an a)
def i_Rel (_ : Nat) (u : SX) (v : SY) : Prop := match u, v with
  | (mX, aX, ie, se, sf, gf, gt, au, li, al, ba, po, rv, he, aT, aE, pa, cl, nl, rl, pl), (mY, vY, is, su, ik, sk, fr, tt, te, re, hY, an, le, st, fo, co, ls, ne, na, pY, ro) => tr_R mX mY ie se sf gf gt au li al ba po rv he aT aE is su ik sk fr tt te re hY an
theorem i_up {k : Nat} {u : SX} {v : SY} (h : i_Rel k u v) : i_Rel (k + 4) u v := h
def tr_D (m : Nat) (ie se sf au li al ba po aT aE : Nat → Int32) : tp_D := (m, ie, se, po, al, ba, fun c => decide (au c = 1), fun c => !decide (sf c = 0), fun c => tx_aa aT aE (ie c) 3, fun c => (li c).toNatClampNeg)
section
variable {m : Nat} {ie se sf gf gt au li al ba po rv he aT aE is su ik sk te re an : Nat → Int32}
theorem tr_S (h12 : m ≤ 12) (hT : ∀ c, c < m → tr_T au li al ba po te c) : tx_S (tr_D m ie se sf au li al ba po aT aE) sf au li aT aE := by
  refine ⟨h12, fun c hc => ?_, fun c hc => ?_, fun c hc => ?_, fun c hc => rfl⟩
  · exact ⟨fun z => decide_eq_true z, fun z => of_decide_eq_true z⟩
  · show sf c = 0 ↔ ¬ (!decide (sf c = 0)) = true
    simp
  · obtain ⟨_, _, _, ⟨q, q1, q2⟩, _⟩ := hT c hc
    show li c = nI (li c).toNatClampNeg ∧ (li c).toNatClampNeg ≤ 4
    rw [q2, nI_clamp (by omega)]
    exact ⟨rfl, q1⟩
theorem tr_aa {v : Int32} {e : Nat} (he : e < 80) (hv : v = nI e) (hA : ∀ a, a < 3 → tr_A aT aE an a) {a : Nat} (ha : a < 3) : (!decide (aT a = 0) && decide (aE a = v)) = true ↔ v = an a := by
  rw [Bool.and_eq_true, Bool.not_eq_true', decide_eq_false_iff_not, decide_eq_true_eq]
  rcases hA a ha with ⟨h1, h2⟩ | ⟨h1, e2, h2, h3, h4⟩
  · constructor
    · intro z; exact absurd h1 z.1
    · intro z
      exfalso
      rw [h2, hv] at z
      have z2 : (nI e).toInt = -1 := by rw [z]; decide
      rw [nI_toInt (by omega)] at z2
      omega
  · rw [h3, h4]
    exact ⟨fun z => z.2.symm, fun z => ⟨h1, z.symm⟩⟩
theorem tr_Y (h12 : m ≤ 12) (hE : ∀ c, c < m → tr_E ie se sf is su ik sk c) (hT : ∀ c, c < m → tr_T au li al ba po te c) (hA : ∀ a, a < 3 → tr_A aT aE an a) : ty_S (tr_D m ie se sf au li al ba po aT aE) is su ik sk te an := by
  refine ⟨h12, fun c hc => ?_⟩
  obtain ⟨i, s, p, q, hi, hs, hp, hq, e1, e2, e3, e4, e5, e6, e7⟩ := hE c hc
  obtain ⟨t1, t2, t3, ⟨f, f1, f2⟩, t4, t5, t6⟩ := hT c hc
  have m10 : ∀ x : Nat, (10 : Int32) * nI x = nI (10 * x) := fun x => pk_mul 10 x
  refine ⟨?_, ?_, ?_, ?_, ?_, ?_, ?_, t4, t5, t6, ?_⟩
  · show (10 : Int32) * is c + ik c = ie c
    rw [e1, e3, e5, m10, nI_add]
  · show (10 : Int32) * su c + sk c = se c
    rw [e2, e4, e6, m10, nI_add]
  · show se c / 10 = su c
    rw [e6, e2]
    have := pk_div (a := 10 * s + q) (d := 10) (by omega) (by omega) (by omega)
    rw [show (10 * s + q) / 10 = s by omega] at this
    exact this
  · show is c = su c ↔ (!decide (sf c = 0)) = true
    rw [e1, e2, nI_eq (by omega) (by omega), Bool.not_eq_true', decide_eq_false_iff_not, e7]
    exact ⟨fun z y => y z, fun z => Classical.byContradiction z⟩
  · show te (5 * c) = 0 ↔ ¬ decide (au c = 1) = true
    rw [t1, decide_eq_true_eq]
    rcases t2 with z | z
    · rw [z]; decide
    · rw [z]; decide
  · show te (5 * c + 1) = nI (li c).toNatClampNeg
    rw [t3, f2, nI_clamp (by omega)]
  · show (li c).toNatClampNeg ≤ 4
    rw [f2, nI_clamp (by omega)]
    exact f1
  · show tx_aa aT aE (ie c) 3 = true ↔ (ie c = an 0 ∨ ie c = an 1 ∨ ie c = an 2)
    rw [← tr_aa (by omega) e5 hA (a := 0) (by omega), ← tr_aa (by omega) e5 hA (a := 1) (by omega), ← tr_aa (by omega) e5 hA (a := 2) (by omega)]
    simp only [tx_aa, Bool.or_eq_true, Bool.false_eq_true, false_or, or_assoc]
theorem tr_H (h12 : m ≤ 12) (hE : ∀ c, c < m → tr_E ie se sf is su ik sk c) (hT : ∀ c, c < m → tr_T au li al ba po te c) (hV : ∀ c, c < m → tr_V rv re c) (hA : ∀ a, a < 3 → tr_A aT aE an a) : vq_H (tr_D m ie se sf au li al ba po aT aE) sf gf gt au li rv he aT aE is su ik sk gf gt te re he an := by
  refine ⟨tr_S h12 hT, tr_Y h12 hE hT hA, fun c hc => ?_, fun t ht => ?_⟩
  · obtain ⟨i, s, p, q, hi, hs, hp, hq, e1, e2, e3, e4, e5, e6, e7⟩ := hE c hc
    show sk c = se c - se c / 10 * 10
    rw [e4, e6]
    have := pk_rem (a := 10 * s + q) (d := 10) (by omega) (by omega) (by omega)
    rw [show (10 * s + q) % 10 = q by omega] at this
    exact this.symm
  · apply tp_mk_congr
    intro c hc
    have e : re c ≤ nI t ↔ rv c ≤ nI t := by
      rcases hV c hc with ⟨h1, h2⟩ | ⟨x, x1, x2, x3⟩
      · rw [h1, h2]
        constructor
        · intro z
          exact absurd z (nI_ge (b := 1000) (by omega) (by omega))
        · intro z
          exact absurd z (nI_ge (b := 101) (by omega) (by omega))
      · rw [x2, x3]
    unfold tx_ok
    rw [decide_eq_decide.mpr e]
end
/-! make, method by method -/
section
variable {m : Nat} {aX : Int32} {ie se sf gf gt au li al ba po rv he aT aE pa cl nl rl pl : Nat → Int32} {vY : Int32} {is su ik sk fr tt te re hY an le st fo co ls ne na pY ro : Nat → Int32}
theorem tx_make100 {post : Int32 → SX → Prop} (hm : m < 12) {z : Int32} (h : post (nI m) ((nI (m + 1)), aX, ie, se, upd sf m (vp_nar .boolean z), upd gf m 0, upd gt m 100, upd au m 1, upd li m 4, upd al m 255, upd ba m 0, upd po m 15, upd rv m 101, upd he m 0, aT, aE, pa, cl, nl, rl, pl)) : wX_make_100 post (nI m) z (nI m) (nI m) aX ie se sf gf gt au li al ba po rv he aT aE pa cl nl rl pl := by
  have e : (nI m).toNatClampNeg = m := nI_clamp (by omega)
  have v : vp_in (nI m) 12 := vp_in_nI (by omega) (by omega)
  unfold wX_make_100
  rw [e]
  exact ⟨v, nm_e ⟨v, nm_e ⟨v, nm_e ⟨v, nm_e ⟨v, nm_e ⟨v, nm_e ⟨v, nm_e ⟨v, nm_e ⟨v, nm_e ⟨v, nm_e (nm_r (nI_1 m) h)⟩⟩⟩⟩⟩⟩⟩⟩⟩⟩
theorem tx_make {post : Int32 → SX → Prop} {a b : Nat} (hm : m < 12) (ha : a < 64) (hb : b < 100) (h : ∀ z : Int32, (z = 0 ↔ ¬ a / 8 = a % 8) → post (nI m) ((nI (m + 1)), aX, upd ie m (nI (10 * (a / 8) + b / 10)), upd se m (nI (10 * (a % 8) + b % 10)), upd sf m z, upd gf m 0, upd gt m 100, upd au m 1, upd li m 4, upd al m 255, upd ba m 0, upd po m 15, upd rv m 101, upd he m 0, aT, aE, pa, cl, nl, rl, pl)) : wpX_make post ((nI m), aX, ie, se, sf, gf, gt, au, li, al, ba, po, rv, he, aT, aE, pa, cl, nl, rl, pl) (nI a) (nI b) := by
  have e : (nI m).toNatClampNeg = m := nI_clamp (by omega)
  have v : vp_in (nI m) 12 := vp_in_nI (by omega) (by omega)
  have d1 : nI a / 8 = nI (a / 8) := pk_div (d := 8) (by omega) (by omega) (by omega)
  have d2 : nI a - nI a / 8 * 8 = nI (a % 8) := pk_rem (d := 8) (by omega) (by omega) (by omega)
  have d3 : nI b / 10 = nI (b / 10) := pk_div (d := 10) (by omega) (by omega) (by omega)
  have d4 : nI b - nI b / 10 * 10 = nI (b % 10) := pk_rem (d := 10) (by omega) (by omega) (by omega)
  have m10 : ∀ x : Nat, (10 : Int32) * nI x = nI (10 * x) := fun x => pk_mul 10 x
  have n8 : ¬ (8 : Int32) = 0 := by decide
  have n10 : ¬ (10 : Int32) = 0 := by decide
  unfold wpX_make
  dsimp only
  rw [e, d2, d4, d1, d3]
  refine br_f (nI_pos (by omega)) (br_f (nI_ge (b := 64) (by omega) (by omega)) (br_f (nI_pos (by omega)) (br_t (nI_lt (b := 100) (by omega) (by omega)) (br_t (nI_lt (b := 12) (by omega) (by omega)) ⟨n8, nm_e ⟨n8, nm_e ⟨n10, v, ?_⟩⟩⟩))))
  rw [m10, nI_add]
  refine nm_e ⟨n10, v, ?_⟩
  rw [m10, nI_add]
  refine nm_e ?_
  by_cases g : a / 8 = a % 8
  · refine br_t (by rw [g]) ?_
    refine tx_make100 hm ?_
    rw [tn_1]
    exact h 1 ⟨fun z => absurd z (by decide), fun z => absurd g z⟩
  · refine br_f (fun z => g ((nI_eq (by omega) (by omega)).mp z)) ?_
    refine tx_make100 hm ?_
    rw [tn_0]
    exact h 0 ⟨fun _ => g, fun _ => rfl⟩
theorem ty_make {post : Int32 → SY → Prop} {a b : Nat} (hm : m < 12) (ha : a < 64) (hb : b < 100) (h : post (nI m) ((nI (m + 1)), vY, upd is m (nI (a / 8)), upd su m (nI (a % 8)), upd ik m (nI (b / 10)), upd sk m (nI (b % 10)), upd fr m 0, upd tt m 100, upd (upd (upd (upd (upd te (5 * m) 1) (5 * m + 1) 4) (5 * m + 2) 255) (5 * m + 3) 0) (5 * m + 4) 15, upd re m 1000, hY, an, le, st, fo, co, ls, ne, na, pY, ro)) : wpY_make post ((nI m), vY, is, su, ik, sk, fr, tt, te, re, hY, an, le, st, fo, co, ls, ne, na, pY, ro) (nI a) (nI b) := by
  have e : (nI m).toNatClampNeg = m := nI_clamp (by omega)
  have v : vp_in (nI m) 12 := vp_in_nI (by omega) (by omega)
  have d1 : nI a / 8 = nI (a / 8) := pk_div (d := 8) (by omega) (by omega) (by omega)
  have d2 : nI a - nI a / 8 * 8 = nI (a % 8) := pk_rem (d := 8) (by omega) (by omega) (by omega)
  have d3 : nI b / 10 = nI (b / 10) := pk_div (d := 10) (by omega) (by omega) (by omega)
  have d4 : nI b - nI b / 10 * 10 = nI (b % 10) := pk_rem (d := 10) (by omega) (by omega) (by omega)
  have n8 : ¬ (8 : Int32) = 0 := by decide
  have n10 : ¬ (10 : Int32) = 0 := by decide
  have f0 : (nI (5 * m)).toNatClampNeg = 5 * m := nI_clamp (by omega)
  have f1 : (nI (5 * m + 1)).toNatClampNeg = 5 * m + 1 := nI_clamp (by omega)
  have f2 : (nI (5 * m + 2)).toNatClampNeg = 5 * m + 2 := nI_clamp (by omega)
  have f3 : (nI (5 * m + 3)).toNatClampNeg = 5 * m + 3 := nI_clamp (by omega)
  have f4 : (nI (5 * m + 4)).toNatClampNeg = 5 * m + 4 := nI_clamp (by omega)
  have w0 : vp_in (nI (5 * m)) 60 := vp_in_nI (by omega) (by omega)
  have w1 : vp_in (nI (5 * m + 1)) 60 := vp_in_nI (by omega) (by omega)
  have w2 : vp_in (nI (5 * m + 2)) 60 := vp_in_nI (by omega) (by omega)
  have w3 : vp_in (nI (5 * m + 3)) 60 := vp_in_nI (by omega) (by omega)
  have w4 : vp_in (nI (5 * m + 4)) 60 := vp_in_nI (by omega) (by omega)
  unfold wpY_make
  dsimp only
  rw [ty_5k m 1 (x := 1) rfl, ty_5k m 2 (x := 2) rfl, ty_5k m 3 (x := 3) rfl, ty_5k m 4 (x := 4) rfl, ty_5 m, e, f0, f1, f2, f3, f4, d2, d4, d1, d3]
  refine br_f (nI_pos (by omega)) (br_f (nI_nlt (a := 63) (by omega) (by omega)) (br_f (nI_pos (by omega)) (br_t (nI_le (b := 99) (by omega) (by omega)) (br_f (fun z => ?_) ⟨n8, v, nm_e ⟨n8, v, nm_e ⟨n10, v, nm_e ⟨n10, v, nm_e ⟨v, nm_e ⟨v, nm_e ⟨w0, nm_e ⟨w1, nm_e ⟨w2, nm_e ⟨w3, nm_e ⟨w4, nm_e ⟨v, nm_e (nm_r (nI_1 m) h)⟩⟩⟩⟩⟩⟩⟩⟩⟩⟩⟩⟩))))
  have z2 := (nI_eq (a := m) (b := 12) (by omega) (by omega)).mp z
  omega
end
end
section
/-! times, set, revoke, hold, anchor, distrust: each side by itself -/
theorem vq_4 {x : Int32} (h : nI 5 ≤ x) : (4 : Int32) < x := Int32.lt_of_lt_of_le (by decide) h
theorem vq_2 {x : Int32} (h : nI 3 ≤ x) : (2 : Int32) < x := Int32.lt_of_lt_of_le (by decide) h
theorem vq_79 {x : Int32} (h : nI 80 ≤ x) : (79 : Int32) < x := Int32.lt_of_lt_of_le (by decide) h
theorem vq_63 {x : Int32} (h : nI 64 ≤ x) : (63 : Int32) < x := Int32.lt_of_lt_of_le (by decide) h
theorem vq_99 {x : Int32} (h : nI 100 ≤ x) : (99 : Int32) < x := Int32.lt_of_lt_of_le (by decide) h
theorem vq_in (x : Int32) (n : Nat) (hn : n < 2 ^ 31) : (x < 0 ∨ nI n ≤ x) ∨ ∃ c, c < n ∧ x = nI c := by
  rcases pk_ix x (n := n) hn with h | h | h
  · exact Or.inl (Or.inl h)
  · exact Or.inl (Or.inr h)
  · exact Or.inr h
section
variable {m : Nat} {aX : Int32} {ie se sf gf gt au li al ba po rv he aT aE pa cl nl rl pl : Nat → Int32} {vY : Int32} {is su ik sk fr tt te re hY an le st fo co ls ne na pY ro : Nat → Int32}
theorem tx_make_n {post : Int32 → SX → Prop} {v1 v2 : Int32} (hb : v1 < 0 ∨ nI 64 ≤ v1) (h : post (-1) ((nI m), aX, ie, se, sf, gf, gt, au, li, al, ba, po, rv, he, aT, aE, pa, cl, nl, rl, pl)) : wpX_make post ((nI m), aX, ie, se, sf, gf, gt, au, li, al, ba, po, rv, he, aT, aE, pa, cl, nl, rl, pl) v1 v2 := by
  unfold wpX_make
  by_cases z : v1 < 0
  · exact br_t z h
  · exact br_f z (br_t (hb.resolve_left z) h)
theorem ty_make_n {post : Int32 → SY → Prop} {v1 v2 : Int32} (hb : v1 < 0 ∨ nI 64 ≤ v1) (h : post (-1) ((nI m), vY, is, su, ik, sk, fr, tt, te, re, hY, an, le, st, fo, co, ls, ne, na, pY, ro)) : wpY_make post ((nI m), vY, is, su, ik, sk, fr, tt, te, re, hY, an, le, st, fo, co, ls, ne, na, pY, ro) v1 v2 := by
  unfold wpY_make
  by_cases z : v1 < 0
  · exact br_t z h
  · exact br_f z (br_t (vq_63 (hb.resolve_left z)) h)
theorem tx_make_k {post : Int32 → SX → Prop} {v2 : Int32} {a : Nat} (ha : a < 64) (hb : v2 < 0 ∨ nI 100 ≤ v2) (h : post (-1) ((nI m), aX, ie, se, sf, gf, gt, au, li, al, ba, po, rv, he, aT, aE, pa, cl, nl, rl, pl)) : wpX_make post ((nI m), aX, ie, se, sf, gf, gt, au, li, al, ba, po, rv, he, aT, aE, pa, cl, nl, rl, pl) (nI a) v2 := by
  unfold wpX_make
  refine br_f (nI_pos (by omega)) (br_f (nI_ge (b := 64) (by omega) (by omega)) ?_)
  by_cases z : v2 < 0
  · exact br_t z h
  · exact br_f z (br_f (Int32.not_lt.mpr (hb.resolve_left z)) h)
theorem ty_make_k {post : Int32 → SY → Prop} {v2 : Int32} {a : Nat} (ha : a < 64) (hb : v2 < 0 ∨ nI 100 ≤ v2) (h : post (-1) ((nI m), vY, is, su, ik, sk, fr, tt, te, re, hY, an, le, st, fo, co, ls, ne, na, pY, ro)) : wpY_make post ((nI m), vY, is, su, ik, sk, fr, tt, te, re, hY, an, le, st, fo, co, ls, ne, na, pY, ro) (nI a) v2 := by
  unfold wpY_make
  refine br_f (nI_pos (by omega)) (br_f (nI_nlt (a := 63) (by omega) (by omega)) ?_)
  by_cases z : v2 < 0
  · exact br_t z h
  · exact br_f z (br_f (Int32.not_le.mpr (vq_99 (hb.resolve_left z))) h)
theorem tx_make_f {post : Int32 → SX → Prop} {a b : Nat} (hm : m = 12) (ha : a < 64) (hb : b < 100) (h : post (-3) ((nI m), aX, ie, se, sf, gf, gt, au, li, al, ba, po, rv, he, aT, aE, pa, cl, nl, rl, pl)) : wpX_make post ((nI m), aX, ie, se, sf, gf, gt, au, li, al, ba, po, rv, he, aT, aE, pa, cl, nl, rl, pl) (nI a) (nI b) := by
  unfold wpX_make
  exact br_f (nI_pos (by omega)) (br_f (nI_ge (b := 64) (by omega) (by omega)) (br_f (nI_pos (by omega)) (br_t (nI_lt (b := 100) (by omega) (by omega)) (br_f (nI_nlt (b := 12) (by omega) (by omega)) h))))
theorem ty_make_f {post : Int32 → SY → Prop} {a b : Nat} (hm : m = 12) (ha : a < 64) (hb : b < 100) (h : post (-3) ((nI m), vY, is, su, ik, sk, fr, tt, te, re, hY, an, le, st, fo, co, ls, ne, na, pY, ro)) : wpY_make post ((nI m), vY, is, su, ik, sk, fr, tt, te, re, hY, an, le, st, fo, co, ls, ne, na, pY, ro) (nI a) (nI b) := by
  unfold wpY_make
  exact br_f (nI_pos (by omega)) (br_f (nI_nlt (a := 63) (by omega) (by omega)) (br_f (nI_pos (by omega)) (br_t (nI_le (b := 99) (by omega) (by omega)) (br_t (by rw [hm]; rfl) h))))
theorem tx_times_c {post : Int32 → SX → Prop} {v1 v2 v3 : Int32} (hb : v1 < 0 ∨ nI m ≤ v1) (h : post (-1) ((nI m), aX, ie, se, sf, gf, gt, au, li, al, ba, po, rv, he, aT, aE, pa, cl, nl, rl, pl)) : wpX_times post ((nI m), aX, ie, se, sf, gf, gt, au, li, al, ba, po, rv, he, aT, aE, pa, cl, nl, rl, pl) v1 v2 v3 := by
  unfold wpX_times
  refine tx_isC0 hb ?_
  exact br_t rfl h
theorem ty_times_c {post : Int32 → SY → Prop} {v1 v2 v3 : Int32} (hb : v1 < 0 ∨ nI m ≤ v1) (h : post (-1) ((nI m), vY, is, su, ik, sk, fr, tt, te, re, hY, an, le, st, fo, co, ls, ne, na, pY, ro)) : wpY_times post ((nI m), vY, is, su, ik, sk, fr, tt, te, re, hY, an, le, st, fo, co, ls, ne, na, pY, ro) v1 v2 v3 := by
  unfold wpY_times
  refine ty_bC0 hb ?_
  exact br_f (by decide) h
theorem tx_times_f {post : Int32 → SX → Prop} {c : Nat} {v2 v3 : Int32} (h12 : m ≤ 12) (hc : c < m) (hb : v2 < 0 ∨ nI 101 ≤ v2) (h : post (-1) ((nI m), aX, ie, se, sf, gf, gt, au, li, al, ba, po, rv, he, aT, aE, pa, cl, nl, rl, pl)) : wpX_times post ((nI m), aX, ie, se, sf, gf, gt, au, li, al, ba, po, rv, he, aT, aE, pa, cl, nl, rl, pl) (nI c) v2 v3 := by
  unfold wpX_times
  refine tx_isC1 h12 hc ?_
  refine br_f (by decide) ?_
  refine tx_isT0 hb ?_
  exact br_t rfl h
theorem ty_times_f {post : Int32 → SY → Prop} {c : Nat} {v2 v3 : Int32} (h12 : m ≤ 12) (hc : c < m) (hb : v2 < 0 ∨ nI 101 ≤ v2) (h : post (-1) ((nI m), vY, is, su, ik, sk, fr, tt, te, re, hY, an, le, st, fo, co, ls, ne, na, pY, ro)) : wpY_times post ((nI m), vY, is, su, ik, sk, fr, tt, te, re, hY, an, le, st, fo, co, ls, ne, na, pY, ro) (nI c) v2 v3 := by
  unfold wpY_times
  refine ty_bC1 h12 hc ?_
  refine br_t rfl ?_
  refine ty_bT0 hb ?_
  exact br_f (by decide) h
theorem tx_times_o {post : Int32 → SX → Prop} {c s : Nat} {v3 : Int32} (h12 : m ≤ 12) (hc : c < m) (hs : s ≤ 100) (hb : v3 < 0 ∨ nI 101 ≤ v3) (h : post (-1) ((nI m), aX, ie, se, sf, gf, gt, au, li, al, ba, po, rv, he, aT, aE, pa, cl, nl, rl, pl)) : wpX_times post ((nI m), aX, ie, se, sf, gf, gt, au, li, al, ba, po, rv, he, aT, aE, pa, cl, nl, rl, pl) (nI c) (nI s) v3 := by
  unfold wpX_times
  refine tx_isC1 h12 hc ?_
  refine br_f (by decide) ?_
  refine tx_isT1 hs ?_
  refine br_f (by decide) ?_
  refine tx_isT0 hb ?_
  exact br_t rfl h
theorem ty_times_o {post : Int32 → SY → Prop} {c s : Nat} {v3 : Int32} (h12 : m ≤ 12) (hc : c < m) (hs : s ≤ 100) (hb : v3 < 0 ∨ nI 101 ≤ v3) (h : post (-1) ((nI m), vY, is, su, ik, sk, fr, tt, te, re, hY, an, le, st, fo, co, ls, ne, na, pY, ro)) : wpY_times post ((nI m), vY, is, su, ik, sk, fr, tt, te, re, hY, an, le, st, fo, co, ls, ne, na, pY, ro) (nI c) (nI s) v3 := by
  unfold wpY_times
  refine ty_bC1 h12 hc ?_
  refine br_t rfl ?_
  refine ty_bT1 hs ?_
  refine br_t rfl ?_
  refine ty_bT0 hb ?_
  exact br_f (by decide) h
theorem tx_times {post : Int32 → SX → Prop} {c s t : Nat} (h12 : m ≤ 12) (hc : c < m) (hs : s ≤ 100) (ht : t ≤ 100) (h0 : ¬ s ≤ t → post (-1) ((nI m), aX, ie, se, sf, gf, gt, au, li, al, ba, po, rv, he, aT, aE, pa, cl, nl, rl, pl)) (h1 : s ≤ t → post 0 ((nI m), aX, ie, se, sf, upd gf c (nI s), upd gt c (nI t), au, li, al, ba, po, rv, he, aT, aE, pa, cl, nl, rl, pl)) : wpX_times post ((nI m), aX, ie, se, sf, gf, gt, au, li, al, ba, po, rv, he, aT, aE, pa, cl, nl, rl, pl) (nI c) (nI s) (nI t) := by
  have e : (nI c).toNatClampNeg = c := nI_clamp (by omega)
  have v : vp_in (nI c) 12 := vp_in_nI (by omega) (by omega)
  unfold wpX_times
  dsimp only
  rw [e]
  refine tx_isC1 h12 hc ?_
  refine br_f (by decide) ?_
  refine tx_isT1 hs ?_
  refine br_f (by decide) ?_
  refine tx_isT1 ht ?_
  refine br_f (by decide) ?_
  exact pk_le s t (fun g => ⟨v, nm_e ⟨v, nm_e (h1 g)⟩⟩) (fun g => h0 (by omega))
theorem ty_times {post : Int32 → SY → Prop} {c s t : Nat} (h12 : m ≤ 12) (hc : c < m) (hs : s ≤ 100) (ht : t ≤ 100) (h0 : ¬ s ≤ t → post (-1) ((nI m), vY, is, su, ik, sk, fr, tt, te, re, hY, an, le, st, fo, co, ls, ne, na, pY, ro)) (h1 : s ≤ t → post 0 ((nI m), vY, is, su, ik, sk, upd fr c (nI s), upd tt c (nI t), te, re, hY, an, le, st, fo, co, ls, ne, na, pY, ro)) : wpY_times post ((nI m), vY, is, su, ik, sk, fr, tt, te, re, hY, an, le, st, fo, co, ls, ne, na, pY, ro) (nI c) (nI s) (nI t) := by
  have e : (nI c).toNatClampNeg = c := nI_clamp (by omega)
  have v : vp_in (nI c) 12 := vp_in_nI (by omega) (by omega)
  unfold wpY_times
  dsimp only
  rw [e]
  refine ty_bC1 h12 hc ?_
  refine br_t rfl ?_
  refine ty_bT1 hs ?_
  refine br_t rfl ?_
  refine ty_bT1 ht ?_
  refine br_t rfl ?_
  exact pk_le s t (fun g => ⟨v, nm_e ⟨v, nm_e (h1 g)⟩⟩) (fun g => h0 (by omega))
theorem tx_set_c {post : Int32 → SX → Prop} {v1 v2 v3 : Int32} (hb : v1 < 0 ∨ nI m ≤ v1) (h : post (-1) ((nI m), aX, ie, se, sf, gf, gt, au, li, al, ba, po, rv, he, aT, aE, pa, cl, nl, rl, pl)) : wpX_set post ((nI m), aX, ie, se, sf, gf, gt, au, li, al, ba, po, rv, he, aT, aE, pa, cl, nl, rl, pl) v1 v2 v3 := by
  unfold wpX_set
  refine tx_isC0 hb ?_
  exact br_t rfl h
theorem ty_set_c {post : Int32 → SY → Prop} {v1 v2 v3 : Int32} (hb : v1 < 0 ∨ nI m ≤ v1) (h : post (-1) ((nI m), vY, is, su, ik, sk, fr, tt, te, re, hY, an, le, st, fo, co, ls, ne, na, pY, ro)) : wpY_set post ((nI m), vY, is, su, ik, sk, fr, tt, te, re, hY, an, le, st, fo, co, ls, ne, na, pY, ro) v1 v2 v3 := by
  unfold wpY_set
  refine ty_bC0 hb ?_
  exact br_f (by decide) h
theorem tx_set_n {post : Int32 → SX → Prop} {c : Nat} {v2 v3 : Int32} (h12 : m ≤ 12) (hc : c < m) (hb : v3 < 0) (h : post (-1) ((nI m), aX, ie, se, sf, gf, gt, au, li, al, ba, po, rv, he, aT, aE, pa, cl, nl, rl, pl)) : wpX_set post ((nI m), aX, ie, se, sf, gf, gt, au, li, al, ba, po, rv, he, aT, aE, pa, cl, nl, rl, pl) (nI c) v2 v3 := by
  unfold wpX_set
  refine tx_isC1 h12 hc ?_
  exact br_f (by decide) (br_f (Int32.not_le.mpr hb) h)
theorem ty_set_n {post : Int32 → SY → Prop} {c : Nat} {v2 v3 : Int32} (h12 : m ≤ 12) (hc : c < m) (hb : v3 < 0) (h : post (-1) ((nI m), vY, is, su, ik, sk, fr, tt, te, re, hY, an, le, st, fo, co, ls, ne, na, pY, ro)) : wpY_set post ((nI m), vY, is, su, ik, sk, fr, tt, te, re, hY, an, le, st, fo, co, ls, ne, na, pY, ro) (nI c) v2 v3 := by
  unfold wpY_set
  refine ty_bC1 h12 hc ?_
  exact br_t rfl (br_c (fun _ => h) (fun _ => br_c (fun _ => h) (fun _ => br_t hb h)))
theorem tx_set_w {post : Int32 → SX → Prop} {c x : Nat} {v2 : Int32} (h12 : m ≤ 12) (hc : c < m) (hx : x < 2 ^ 31) (hb : v2 < 0 ∨ nI 5 ≤ v2) (h : post (-1) ((nI m), aX, ie, se, sf, gf, gt, au, li, al, ba, po, rv, he, aT, aE, pa, cl, nl, rl, pl)) : wpX_set post ((nI m), aX, ie, se, sf, gf, gt, au, li, al, ba, po, rv, he, aT, aE, pa, cl, nl, rl, pl) (nI c) v2 (nI x) := by
  unfold wpX_set
  refine tx_isC1 h12 hc ?_
  refine br_f (by decide) (br_t (nI_pos' hx) ?_)
  by_cases z : v2 < 0
  · exact br_t z h
  · exact br_f z (br_t (vq_4 (hb.resolve_left z)) h)
theorem ty_set_w {post : Int32 → SY → Prop} {c : Nat} {v2 v3 : Int32} (h12 : m ≤ 12) (hc : c < m) (hb : v2 < 0 ∨ nI 5 ≤ v2) (h : post (-1) ((nI m), vY, is, su, ik, sk, fr, tt, te, re, hY, an, le, st, fo, co, ls, ne, na, pY, ro)) : wpY_set post ((nI m), vY, is, su, ik, sk, fr, tt, te, re, hY, an, le, st, fo, co, ls, ne, na, pY, ro) (nI c) v2 v3 := by
  unfold wpY_set
  refine ty_bC1 h12 hc ?_
  refine br_t rfl ?_
  by_cases z : v2 < 0
  · exact br_t z h
  · exact br_f z (br_t (vq_4 (hb.resolve_left z)) h)
theorem tx_rep0 {post : Int32 → SX → Prop} {c x : Nat} (hc : c < 12) (hx : x < 2 ^ 31) (h1 : x ≤ 1 → post (au c) ((nI m), aX, ie, se, sf, gf, gt, upd au c (nI x), li, al, ba, po, rv, he, aT, aE, pa, cl, nl, rl, pl)) (h0 : 1 < x → post (-1) ((nI m), aX, ie, se, sf, gf, gt, au, li, al, ba, po, rv, he, aT, aE, pa, cl, nl, rl, pl)) : wpX_replace__authority post ((nI m), aX, ie, se, sf, gf, gt, au, li, al, ba, po, rv, he, aT, aE, pa, cl, nl, rl, pl) (nI c) (nI x) 1 := by
  have e : (nI c).toNatClampNeg = c := nI_clamp (by omega)
  have v : vp_in (nI c) 12 := vp_in_nI (by omega) (by omega)
  unfold wpX_replace__authority
  dsimp only
  rw [e]
  exact pk_le x 1 (fun g => ⟨v, nm_e ⟨v, nm_e (h1 g)⟩⟩) h0
theorem tx_set0 {post : Int32 → SX → Prop} {c x : Nat} (h12 : m ≤ 12) (hc : c < m) (hx : x < 2 ^ 31) (h1 : x ≤ 1 → post (au c) ((nI m), aX, ie, se, sf, gf, gt, upd au c (nI x), li, al, ba, po, rv, he, aT, aE, pa, cl, nl, rl, pl)) (h0 : 1 < x → post (-1) ((nI m), aX, ie, se, sf, gf, gt, au, li, al, ba, po, rv, he, aT, aE, pa, cl, nl, rl, pl)) : wpX_set post ((nI m), aX, ie, se, sf, gf, gt, au, li, al, ba, po, rv, he, aT, aE, pa, cl, nl, rl, pl) (nI c) (nI 0) (nI x) := by
  unfold wpX_set
  refine tx_isC1 h12 hc ?_
  refine br_f (by decide) (br_t (nI_pos' hx) (br_f (by decide) (br_f (by decide) ?_)))
  refine br_t (by decide) ?_
  exact tx_rep0 (by omega) hx h1 h0
theorem ty_set0 {post : Int32 → SY → Prop} {c x : Nat} (h12 : m ≤ 12) (hc : c < m) (hx : x < 2 ^ 31) (h1 : x ≤ 1 → post (te (5 * c)) ((nI m), vY, is, su, ik, sk, fr, tt, upd te (5 * c) (nI x), re, hY, an, le, st, fo, co, ls, ne, na, pY, ro)) (h0 : 1 < x → post (-1) ((nI m), vY, is, su, ik, sk, fr, tt, te, re, hY, an, le, st, fo, co, ls, ne, na, pY, ro)) : wpY_set post ((nI m), vY, is, su, ik, sk, fr, tt, te, re, hY, an, le, st, fo, co, ls, ne, na, pY, ro) (nI c) (nI 0) (nI x) := by
  have e : (nI (5 * c + 0)).toNatClampNeg = 5 * c + 0 := nI_clamp (by omega)
  have v : vp_in (nI (5 * c + 0)) 60 := vp_in_nI (by omega) (by omega)
  unfold wpY_set
  dsimp only
  rw [ty_5k c 0 (x := nI 0) rfl, e]
  refine ty_bC1 h12 hc ?_
  refine br_t rfl (br_f (by decide) (br_f (by decide) (br_f (nI_pos hx) ?_)))
  unfold wpY_most
  refine br_t (by decide) ?_
  exact pk_le x 1 (fun g => ⟨v, nm_e ⟨v, nm_e (h1 g)⟩⟩) h0
theorem tx_rep1 {post : Int32 → SX → Prop} {c x : Nat} (hc : c < 12) (hx : x < 2 ^ 31) (h1 : x ≤ 4 → post (li c) ((nI m), aX, ie, se, sf, gf, gt, au, upd li c (nI x), al, ba, po, rv, he, aT, aE, pa, cl, nl, rl, pl)) (h0 : 4 < x → post (-1) ((nI m), aX, ie, se, sf, gf, gt, au, li, al, ba, po, rv, he, aT, aE, pa, cl, nl, rl, pl)) : wpX_replace__limit post ((nI m), aX, ie, se, sf, gf, gt, au, li, al, ba, po, rv, he, aT, aE, pa, cl, nl, rl, pl) (nI c) (nI x) 4 := by
  have e : (nI c).toNatClampNeg = c := nI_clamp (by omega)
  have v : vp_in (nI c) 12 := vp_in_nI (by omega) (by omega)
  unfold wpX_replace__limit
  dsimp only
  rw [e]
  exact pk_le x 4 (fun g => ⟨v, nm_e ⟨v, nm_e (h1 g)⟩⟩) h0
theorem tx_set1 {post : Int32 → SX → Prop} {c x : Nat} (h12 : m ≤ 12) (hc : c < m) (hx : x < 2 ^ 31) (h1 : x ≤ 4 → post (li c) ((nI m), aX, ie, se, sf, gf, gt, au, upd li c (nI x), al, ba, po, rv, he, aT, aE, pa, cl, nl, rl, pl)) (h0 : 4 < x → post (-1) ((nI m), aX, ie, se, sf, gf, gt, au, li, al, ba, po, rv, he, aT, aE, pa, cl, nl, rl, pl)) : wpX_set post ((nI m), aX, ie, se, sf, gf, gt, au, li, al, ba, po, rv, he, aT, aE, pa, cl, nl, rl, pl) (nI c) (nI 1) (nI x) := by
  unfold wpX_set
  refine tx_isC1 h12 hc ?_
  refine br_f (by decide) (br_t (nI_pos' hx) (br_f (by decide) (br_f (by decide) ?_)))
  refine br_f (by decide) (br_t (by decide) ?_)
  exact tx_rep1 (by omega) hx h1 h0
theorem ty_set1 {post : Int32 → SY → Prop} {c x : Nat} (h12 : m ≤ 12) (hc : c < m) (hx : x < 2 ^ 31) (h1 : x ≤ 4 → post (te (5 * c + 1)) ((nI m), vY, is, su, ik, sk, fr, tt, upd te (5 * c + 1) (nI x), re, hY, an, le, st, fo, co, ls, ne, na, pY, ro)) (h0 : 4 < x → post (-1) ((nI m), vY, is, su, ik, sk, fr, tt, te, re, hY, an, le, st, fo, co, ls, ne, na, pY, ro)) : wpY_set post ((nI m), vY, is, su, ik, sk, fr, tt, te, re, hY, an, le, st, fo, co, ls, ne, na, pY, ro) (nI c) (nI 1) (nI x) := by
  have e : (nI (5 * c + 1)).toNatClampNeg = 5 * c + 1 := nI_clamp (by omega)
  have v : vp_in (nI (5 * c + 1)) 60 := vp_in_nI (by omega) (by omega)
  unfold wpY_set
  dsimp only
  rw [ty_5k c 1 (x := nI 1) rfl, e]
  refine ty_bC1 h12 hc ?_
  refine br_t rfl (br_f (by decide) (br_f (by decide) (br_f (nI_pos hx) ?_)))
  unfold wpY_most
  refine br_f (by decide) (br_t (by decide) ?_)
  exact pk_le x 4 (fun g => ⟨v, nm_e ⟨v, nm_e (h1 g)⟩⟩) h0
theorem tx_rep2 {post : Int32 → SX → Prop} {c x : Nat} (hc : c < 12) (hx : x < 2 ^ 31) (h1 : x ≤ 255 → post (al c) ((nI m), aX, ie, se, sf, gf, gt, au, li, upd al c (nI x), ba, po, rv, he, aT, aE, pa, cl, nl, rl, pl)) (h0 : 255 < x → post (-1) ((nI m), aX, ie, se, sf, gf, gt, au, li, al, ba, po, rv, he, aT, aE, pa, cl, nl, rl, pl)) : wpX_replace__allowed post ((nI m), aX, ie, se, sf, gf, gt, au, li, al, ba, po, rv, he, aT, aE, pa, cl, nl, rl, pl) (nI c) (nI x) 255 := by
  have e : (nI c).toNatClampNeg = c := nI_clamp (by omega)
  have v : vp_in (nI c) 12 := vp_in_nI (by omega) (by omega)
  unfold wpX_replace__allowed
  dsimp only
  rw [e]
  exact pk_le x 255 (fun g => ⟨v, nm_e ⟨v, nm_e (h1 g)⟩⟩) h0
theorem tx_set2 {post : Int32 → SX → Prop} {c x : Nat} (h12 : m ≤ 12) (hc : c < m) (hx : x < 2 ^ 31) (h1 : x ≤ 255 → post (al c) ((nI m), aX, ie, se, sf, gf, gt, au, li, upd al c (nI x), ba, po, rv, he, aT, aE, pa, cl, nl, rl, pl)) (h0 : 255 < x → post (-1) ((nI m), aX, ie, se, sf, gf, gt, au, li, al, ba, po, rv, he, aT, aE, pa, cl, nl, rl, pl)) : wpX_set post ((nI m), aX, ie, se, sf, gf, gt, au, li, al, ba, po, rv, he, aT, aE, pa, cl, nl, rl, pl) (nI c) (nI 2) (nI x) := by
  unfold wpX_set
  refine tx_isC1 h12 hc ?_
  refine br_f (by decide) (br_t (nI_pos' hx) (br_f (by decide) (br_f (by decide) ?_)))
  refine br_f (by decide) (br_f (by decide) (br_t (by decide) ?_))
  exact tx_rep2 (by omega) hx h1 h0
theorem ty_set2 {post : Int32 → SY → Prop} {c x : Nat} (h12 : m ≤ 12) (hc : c < m) (hx : x < 2 ^ 31) (h1 : x ≤ 255 → post (te (5 * c + 2)) ((nI m), vY, is, su, ik, sk, fr, tt, upd te (5 * c + 2) (nI x), re, hY, an, le, st, fo, co, ls, ne, na, pY, ro)) (h0 : 255 < x → post (-1) ((nI m), vY, is, su, ik, sk, fr, tt, te, re, hY, an, le, st, fo, co, ls, ne, na, pY, ro)) : wpY_set post ((nI m), vY, is, su, ik, sk, fr, tt, te, re, hY, an, le, st, fo, co, ls, ne, na, pY, ro) (nI c) (nI 2) (nI x) := by
  have e : (nI (5 * c + 2)).toNatClampNeg = 5 * c + 2 := nI_clamp (by omega)
  have v : vp_in (nI (5 * c + 2)) 60 := vp_in_nI (by omega) (by omega)
  unfold wpY_set
  dsimp only
  rw [ty_5k c 2 (x := nI 2) rfl, e]
  refine ty_bC1 h12 hc ?_
  refine br_t rfl (br_f (by decide) (br_f (by decide) (br_f (nI_pos hx) ?_)))
  unfold wpY_most
  refine br_f (by decide) (br_f (by decide) (br_f (by decide) ?_))
  exact pk_le x 255 (fun g => ⟨v, nm_e ⟨v, nm_e (h1 g)⟩⟩) h0
theorem tx_rep3 {post : Int32 → SX → Prop} {c x : Nat} (hc : c < 12) (hx : x < 2 ^ 31) (h1 : x ≤ 255 → post (ba c) ((nI m), aX, ie, se, sf, gf, gt, au, li, al, upd ba c (nI x), po, rv, he, aT, aE, pa, cl, nl, rl, pl)) (h0 : 255 < x → post (-1) ((nI m), aX, ie, se, sf, gf, gt, au, li, al, ba, po, rv, he, aT, aE, pa, cl, nl, rl, pl)) : wpX_replace__barred post ((nI m), aX, ie, se, sf, gf, gt, au, li, al, ba, po, rv, he, aT, aE, pa, cl, nl, rl, pl) (nI c) (nI x) 255 := by
  have e : (nI c).toNatClampNeg = c := nI_clamp (by omega)
  have v : vp_in (nI c) 12 := vp_in_nI (by omega) (by omega)
  unfold wpX_replace__barred
  dsimp only
  rw [e]
  exact pk_le x 255 (fun g => ⟨v, nm_e ⟨v, nm_e (h1 g)⟩⟩) h0
theorem tx_set3 {post : Int32 → SX → Prop} {c x : Nat} (h12 : m ≤ 12) (hc : c < m) (hx : x < 2 ^ 31) (h1 : x ≤ 255 → post (ba c) ((nI m), aX, ie, se, sf, gf, gt, au, li, al, upd ba c (nI x), po, rv, he, aT, aE, pa, cl, nl, rl, pl)) (h0 : 255 < x → post (-1) ((nI m), aX, ie, se, sf, gf, gt, au, li, al, ba, po, rv, he, aT, aE, pa, cl, nl, rl, pl)) : wpX_set post ((nI m), aX, ie, se, sf, gf, gt, au, li, al, ba, po, rv, he, aT, aE, pa, cl, nl, rl, pl) (nI c) (nI 3) (nI x) := by
  unfold wpX_set
  refine tx_isC1 h12 hc ?_
  refine br_f (by decide) (br_t (nI_pos' hx) (br_f (by decide) (br_f (by decide) ?_)))
  refine br_f (by decide) (br_f (by decide) (br_f (by decide) (br_t (by decide) ?_)))
  exact tx_rep3 (by omega) hx h1 h0
theorem ty_set3 {post : Int32 → SY → Prop} {c x : Nat} (h12 : m ≤ 12) (hc : c < m) (hx : x < 2 ^ 31) (h1 : x ≤ 255 → post (te (5 * c + 3)) ((nI m), vY, is, su, ik, sk, fr, tt, upd te (5 * c + 3) (nI x), re, hY, an, le, st, fo, co, ls, ne, na, pY, ro)) (h0 : 255 < x → post (-1) ((nI m), vY, is, su, ik, sk, fr, tt, te, re, hY, an, le, st, fo, co, ls, ne, na, pY, ro)) : wpY_set post ((nI m), vY, is, su, ik, sk, fr, tt, te, re, hY, an, le, st, fo, co, ls, ne, na, pY, ro) (nI c) (nI 3) (nI x) := by
  have e : (nI (5 * c + 3)).toNatClampNeg = 5 * c + 3 := nI_clamp (by omega)
  have v : vp_in (nI (5 * c + 3)) 60 := vp_in_nI (by omega) (by omega)
  unfold wpY_set
  dsimp only
  rw [ty_5k c 3 (x := nI 3) rfl, e]
  refine ty_bC1 h12 hc ?_
  refine br_t rfl (br_f (by decide) (br_f (by decide) (br_f (nI_pos hx) ?_)))
  unfold wpY_most
  refine br_f (by decide) (br_f (by decide) (br_f (by decide) ?_))
  exact pk_le x 255 (fun g => ⟨v, nm_e ⟨v, nm_e (h1 g)⟩⟩) h0
theorem tx_rep4 {post : Int32 → SX → Prop} {c x : Nat} (hc : c < 12) (hx : x < 2 ^ 31) (h1 : x ≤ 15 → post (po c) ((nI m), aX, ie, se, sf, gf, gt, au, li, al, ba, upd po c (nI x), rv, he, aT, aE, pa, cl, nl, rl, pl)) (h0 : 15 < x → post (-1) ((nI m), aX, ie, se, sf, gf, gt, au, li, al, ba, po, rv, he, aT, aE, pa, cl, nl, rl, pl)) : wpX_replace__policySet post ((nI m), aX, ie, se, sf, gf, gt, au, li, al, ba, po, rv, he, aT, aE, pa, cl, nl, rl, pl) (nI c) (nI x) 15 := by
  have e : (nI c).toNatClampNeg = c := nI_clamp (by omega)
  have v : vp_in (nI c) 12 := vp_in_nI (by omega) (by omega)
  unfold wpX_replace__policySet
  dsimp only
  rw [e]
  exact pk_le x 15 (fun g => ⟨v, nm_e ⟨v, nm_e (h1 g)⟩⟩) h0
theorem tx_set4 {post : Int32 → SX → Prop} {c x : Nat} (h12 : m ≤ 12) (hc : c < m) (hx : x < 2 ^ 31) (h1 : x ≤ 15 → post (po c) ((nI m), aX, ie, se, sf, gf, gt, au, li, al, ba, upd po c (nI x), rv, he, aT, aE, pa, cl, nl, rl, pl)) (h0 : 15 < x → post (-1) ((nI m), aX, ie, se, sf, gf, gt, au, li, al, ba, po, rv, he, aT, aE, pa, cl, nl, rl, pl)) : wpX_set post ((nI m), aX, ie, se, sf, gf, gt, au, li, al, ba, po, rv, he, aT, aE, pa, cl, nl, rl, pl) (nI c) (nI 4) (nI x) := by
  unfold wpX_set
  refine tx_isC1 h12 hc ?_
  refine br_f (by decide) (br_t (nI_pos' hx) (br_f (by decide) (br_f (by decide) ?_)))
  refine br_f (by decide) (br_f (by decide) (br_f (by decide) (br_f (by decide) (br_t (by decide) ?_))))
  exact tx_rep4 (by omega) hx h1 h0
theorem ty_set4 {post : Int32 → SY → Prop} {c x : Nat} (h12 : m ≤ 12) (hc : c < m) (hx : x < 2 ^ 31) (h1 : x ≤ 15 → post (te (5 * c + 4)) ((nI m), vY, is, su, ik, sk, fr, tt, upd te (5 * c + 4) (nI x), re, hY, an, le, st, fo, co, ls, ne, na, pY, ro)) (h0 : 15 < x → post (-1) ((nI m), vY, is, su, ik, sk, fr, tt, te, re, hY, an, le, st, fo, co, ls, ne, na, pY, ro)) : wpY_set post ((nI m), vY, is, su, ik, sk, fr, tt, te, re, hY, an, le, st, fo, co, ls, ne, na, pY, ro) (nI c) (nI 4) (nI x) := by
  have e : (nI (5 * c + 4)).toNatClampNeg = 5 * c + 4 := nI_clamp (by omega)
  have v : vp_in (nI (5 * c + 4)) 60 := vp_in_nI (by omega) (by omega)
  unfold wpY_set
  dsimp only
  rw [ty_5k c 4 (x := nI 4) rfl, e]
  refine ty_bC1 h12 hc ?_
  refine br_t rfl (br_f (by decide) (br_f (by decide) (br_f (nI_pos hx) ?_)))
  unfold wpY_most
  refine br_f (by decide) (br_f (by decide) (br_t (by decide) ?_))
  exact pk_le x 15 (fun g => ⟨v, nm_e ⟨v, nm_e (h1 g)⟩⟩) h0
theorem tx_revoke_c {post : Int32 → SX → Prop} {v1 v2 : Int32} (hb : v1 < 0 ∨ nI m ≤ v1) (h : post (-1) ((nI m), aX, ie, se, sf, gf, gt, au, li, al, ba, po, rv, he, aT, aE, pa, cl, nl, rl, pl)) : wpX_revoke post ((nI m), aX, ie, se, sf, gf, gt, au, li, al, ba, po, rv, he, aT, aE, pa, cl, nl, rl, pl) v1 v2 := by
  unfold wpX_revoke
  refine tx_isC0 hb ?_
  exact br_t rfl h
theorem ty_revoke_c {post : Int32 → SY → Prop} {v1 v2 : Int32} (hb : v1 < 0 ∨ nI m ≤ v1) (h : post (-1) ((nI m), vY, is, su, ik, sk, fr, tt, te, re, hY, an, le, st, fo, co, ls, ne, na, pY, ro)) : wpY_revoke post ((nI m), vY, is, su, ik, sk, fr, tt, te, re, hY, an, le, st, fo, co, ls, ne, na, pY, ro) v1 v2 := by
  unfold wpY_revoke
  refine ty_bC0 hb ?_
  exact br_f (by decide) h
theorem tx_revoke_t {post : Int32 → SX → Prop} {c : Nat} {v2 : Int32} (h12 : m ≤ 12) (hc : c < m) (hb : v2 < 0 ∨ nI 101 ≤ v2) (h : post (-1) ((nI m), aX, ie, se, sf, gf, gt, au, li, al, ba, po, rv, he, aT, aE, pa, cl, nl, rl, pl)) : wpX_revoke post ((nI m), aX, ie, se, sf, gf, gt, au, li, al, ba, po, rv, he, aT, aE, pa, cl, nl, rl, pl) (nI c) v2 := by
  unfold wpX_revoke
  refine tx_isC1 h12 hc ?_
  refine br_f (by decide) ?_
  refine tx_isT0 hb ?_
  exact br_t rfl h
theorem ty_revoke_t {post : Int32 → SY → Prop} {c : Nat} {v2 : Int32} (h12 : m ≤ 12) (hc : c < m) (hb : v2 < 0 ∨ nI 101 ≤ v2) (h : post (-1) ((nI m), vY, is, su, ik, sk, fr, tt, te, re, hY, an, le, st, fo, co, ls, ne, na, pY, ro)) : wpY_revoke post ((nI m), vY, is, su, ik, sk, fr, tt, te, re, hY, an, le, st, fo, co, ls, ne, na, pY, ro) (nI c) v2 := by
  unfold wpY_revoke
  refine ty_bC1 h12 hc ?_
  refine br_t rfl ?_
  refine ty_bT0 hb ?_
  exact br_f (by decide) h
theorem tx_revoke {post : Int32 → SX → Prop} {c t : Nat} (h12 : m ≤ 12) (hc : c < m) (ht : t ≤ 100) (h : post (if rv c = 101 then 0 else 1) ((nI m), aX, ie, se, sf, gf, gt, au, li, al, ba, po, upd rv c (nI t), he, aT, aE, pa, cl, nl, rl, pl)) : wpX_revoke post ((nI m), aX, ie, se, sf, gf, gt, au, li, al, ba, po, rv, he, aT, aE, pa, cl, nl, rl, pl) (nI c) (nI t) := by
  have e : (nI c).toNatClampNeg = c := nI_clamp (by omega)
  have v : vp_in (nI c) 12 := vp_in_nI (by omega) (by omega)
  unfold wpX_revoke
  dsimp only
  rw [e]
  refine tx_isC1 h12 hc ?_
  refine br_f (by decide) ?_
  refine tx_isT1 ht ?_
  refine br_f (by decide) ⟨v, nm_e ⟨v, nm_e ?_⟩⟩
  by_cases g : rv c = 101
  · rw [if_pos g] at h
    exact br_t g h
  · rw [if_neg g] at h
    exact br_f g h
theorem ty_revoke {post : Int32 → SY → Prop} {c t : Nat} (h12 : m ≤ 12) (hc : c < m) (ht : t ≤ 100) (h : post (if 1000 ≤ re c then 0 else 1) ((nI m), vY, is, su, ik, sk, fr, tt, te, upd re c (nI t), hY, an, le, st, fo, co, ls, ne, na, pY, ro)) : wpY_revoke post ((nI m), vY, is, su, ik, sk, fr, tt, te, re, hY, an, le, st, fo, co, ls, ne, na, pY, ro) (nI c) (nI t) := by
  have e : (nI c).toNatClampNeg = c := nI_clamp (by omega)
  have v : vp_in (nI c) 12 := vp_in_nI (by omega) (by omega)
  unfold wpY_revoke
  dsimp only
  rw [e]
  refine ty_bC1 h12 hc ?_
  refine br_t rfl ?_
  refine ty_bT1 ht ?_
  refine br_t rfl ⟨v, ?_⟩
  by_cases g : 1000 ≤ re c
  · rw [if_pos g] at h
    refine br_t g ?_
    unfold wY_revoke_35
    rw [e]
    exact ⟨v, nm_e h⟩
  · rw [if_neg g] at h
    refine br_f g ?_
    unfold wY_revoke_35
    rw [e]
    exact ⟨v, nm_e h⟩
theorem tx_hold_c {post : Int32 → SX → Prop} {v1 v2 : Int32} (hb : v1 < 0 ∨ nI m ≤ v1) (h : post (-1) ((nI m), aX, ie, se, sf, gf, gt, au, li, al, ba, po, rv, he, aT, aE, pa, cl, nl, rl, pl)) : wpX_hold post ((nI m), aX, ie, se, sf, gf, gt, au, li, al, ba, po, rv, he, aT, aE, pa, cl, nl, rl, pl) v1 v2 := by
  unfold wpX_hold
  refine tx_isC0 hb ?_
  exact br_t rfl h
theorem ty_hold_c {post : Int32 → SY → Prop} {v1 v2 : Int32} (hb : v1 < 0 ∨ nI m ≤ v1) (h : post (-1) ((nI m), vY, is, su, ik, sk, fr, tt, te, re, hY, an, le, st, fo, co, ls, ne, na, pY, ro)) : wpY_hold post ((nI m), vY, is, su, ik, sk, fr, tt, te, re, hY, an, le, st, fo, co, ls, ne, na, pY, ro) v1 v2 := by
  unfold wpY_hold
  refine ty_bC0 hb ?_
  exact br_f (by decide) h
theorem tx_hold {post : Int32 → SX → Prop} {c : Nat} {v2 : Int32} (h12 : m ≤ 12) (hc : c < m) (h : post (if he c = 0 then 0 else 1) ((nI m), aX, ie, se, sf, gf, gt, au, li, al, ba, po, rv, upd he c (vp_nar .boolean v2), aT, aE, pa, cl, nl, rl, pl)) : wpX_hold post ((nI m), aX, ie, se, sf, gf, gt, au, li, al, ba, po, rv, he, aT, aE, pa, cl, nl, rl, pl) (nI c) v2 := by
  have e : (nI c).toNatClampNeg = c := nI_clamp (by omega)
  have v : vp_in (nI c) 12 := vp_in_nI (by omega) (by omega)
  unfold wpX_hold
  dsimp only
  rw [e]
  refine tx_isC1 h12 hc ?_
  refine br_f (by decide) ⟨v, nm_e ⟨v, nm_e ?_⟩⟩
  by_cases g : he c = 0
  · rw [if_pos g] at h
    exact br_t g h
  · rw [if_neg g] at h
    exact br_f g h
theorem ty_hold {post : Int32 → SY → Prop} {c : Nat} {v2 : Int32} (h12 : m ≤ 12) (hc : c < m) (h : post (if hY c = 0 then 0 else 1) ((nI m), vY, is, su, ik, sk, fr, tt, te, re, upd hY c (vp_nar .boolean v2), an, le, st, fo, co, ls, ne, na, pY, ro)) : wpY_hold post ((nI m), vY, is, su, ik, sk, fr, tt, te, re, hY, an, le, st, fo, co, ls, ne, na, pY, ro) (nI c) v2 := by
  have e : (nI c).toNatClampNeg = c := nI_clamp (by omega)
  have v : vp_in (nI c) 12 := vp_in_nI (by omega) (by omega)
  unfold wpY_hold
  dsimp only
  rw [e]
  refine ty_bC1 h12 hc ?_
  refine br_t rfl ⟨v, ?_⟩
  by_cases g : hY c = 0
  · rw [if_pos g] at h
    refine br_t g ?_
    unfold wY_hold_24
    rw [e]
    exact ⟨v, nm_e h⟩
  · rw [if_neg g] at h
    refine br_f g ?_
    unfold wY_hold_24
    rw [e]
    exact ⟨v, nm_e h⟩
theorem tx_anchor_a {post : Int32 → SX → Prop} {v1 v2 : Int32} (hb : v1 < 0 ∨ nI 3 ≤ v1) (h : post (-1) ((nI m), aX, ie, se, sf, gf, gt, au, li, al, ba, po, rv, he, aT, aE, pa, cl, nl, rl, pl)) : wpX_anchor post ((nI m), aX, ie, se, sf, gf, gt, au, li, al, ba, po, rv, he, aT, aE, pa, cl, nl, rl, pl) v1 v2 := by
  unfold wpX_anchor
  refine tx_isA0 hb ?_
  exact br_t rfl h
theorem ty_anchor_a {post : Int32 → SY → Prop} {v1 v2 : Int32} (hb : v1 < 0 ∨ nI 3 ≤ v1) (h : post (-1) ((nI m), vY, is, su, ik, sk, fr, tt, te, re, hY, an, le, st, fo, co, ls, ne, na, pY, ro)) : wpY_anchor post ((nI m), vY, is, su, ik, sk, fr, tt, te, re, hY, an, le, st, fo, co, ls, ne, na, pY, ro) v1 v2 := by
  unfold wpY_anchor
  by_cases z : v1 < 0
  · exact br_t z h
  · exact br_f z (br_t (vq_2 (hb.resolve_left z)) h)
theorem tx_anchor_e {post : Int32 → SX → Prop} {a : Nat} {v2 : Int32} (ha : a < 3) (hb : v2 < 0 ∨ nI 80 ≤ v2) (h : post (-1) ((nI m), aX, ie, se, sf, gf, gt, au, li, al, ba, po, rv, he, aT, aE, pa, cl, nl, rl, pl)) : wpX_anchor post ((nI m), aX, ie, se, sf, gf, gt, au, li, al, ba, po, rv, he, aT, aE, pa, cl, nl, rl, pl) (nI a) v2 := by
  unfold wpX_anchor
  refine tx_isA1 ha ?_
  refine br_f (by decide) ?_
  by_cases z : v2 < 0
  · exact br_t z h
  · exact br_f z (br_f (Int32.not_lt.mpr (hb.resolve_left z)) h)
theorem ty_anchor_e {post : Int32 → SY → Prop} {a : Nat} {v2 : Int32} (ha : a < 3) (hb : v2 < 0 ∨ nI 80 ≤ v2) (h : post (-1) ((nI m), vY, is, su, ik, sk, fr, tt, te, re, hY, an, le, st, fo, co, ls, ne, na, pY, ro)) : wpY_anchor post ((nI m), vY, is, su, ik, sk, fr, tt, te, re, hY, an, le, st, fo, co, ls, ne, na, pY, ro) (nI a) v2 := by
  unfold wpY_anchor
  refine br_f (nI_pos (by omega)) (br_f (nI_nlt (a := 2) (by omega) (by omega)) ?_)
  by_cases z : v2 < 0
  · exact br_t z h
  · exact br_f z (br_f (Int32.not_le.mpr (vq_79 (hb.resolve_left z))) h)
theorem tx_anchor {post : Int32 → SX → Prop} {a e : Nat} (ha : a < 3) (he' : e < 80) (h : post (if aT a = 0 then 0 else 1) ((nI m), aX, ie, se, sf, gf, gt, au, li, al, ba, po, rv, he, upd aT a 1, upd aE a (nI e), pa, cl, nl, rl, pl)) : wpX_anchor post ((nI m), aX, ie, se, sf, gf, gt, au, li, al, ba, po, rv, he, aT, aE, pa, cl, nl, rl, pl) (nI a) (nI e) := by
  have e1 : (nI a).toNatClampNeg = a := nI_clamp (by omega)
  have v : vp_in (nI a) 3 := vp_in_nI (by omega) (by omega)
  unfold wpX_anchor
  dsimp only
  rw [e1, tn_1]
  refine tx_isA1 ha ?_
  refine br_f (by decide) (br_f (nI_pos (by omega)) (br_t (nI_lt (b := 80) he' (by omega)) ⟨v, nm_e ⟨v, nm_e ⟨v, nm_e ?_⟩⟩⟩))
  by_cases g : aT a = 0
  · rw [if_pos g] at h
    exact br_t g h
  · rw [if_neg g] at h
    exact br_f g h
theorem ty_anchor {post : Int32 → SY → Prop} {a e : Nat} (ha : a < 3) (he' : e < 80) (h : post (if an a < 0 then 0 else 1) ((nI m), vY, is, su, ik, sk, fr, tt, te, re, hY, upd an a (nI e), le, st, fo, co, ls, ne, na, pY, ro)) : wpY_anchor post ((nI m), vY, is, su, ik, sk, fr, tt, te, re, hY, an, le, st, fo, co, ls, ne, na, pY, ro) (nI a) (nI e) := by
  have e1 : (nI a).toNatClampNeg = a := nI_clamp (by omega)
  have v : vp_in (nI a) 3 := vp_in_nI (by omega) (by omega)
  unfold wpY_anchor
  dsimp only
  rw [e1]
  refine br_f (nI_pos (by omega)) (br_f (nI_nlt (a := 2) (by omega) (by omega)) (br_f (nI_pos (by omega)) (br_t (nI_le (b := 79) (by omega) (by omega)) ⟨v, ?_⟩)))
  by_cases g : an a < 0
  · rw [if_pos g] at h
    refine br_t g ?_
    unfold wY_anchor_35
    rw [e1]
    exact ⟨v, nm_e h⟩
  · rw [if_neg g] at h
    refine br_f g ?_
    unfold wY_anchor_35
    rw [e1]
    exact ⟨v, nm_e h⟩
theorem tx_distrust_a {post : Int32 → SX → Prop} {v1 : Int32} (hb : v1 < 0 ∨ nI 3 ≤ v1) (h : post (-1) ((nI m), aX, ie, se, sf, gf, gt, au, li, al, ba, po, rv, he, aT, aE, pa, cl, nl, rl, pl)) : wpX_distrust post ((nI m), aX, ie, se, sf, gf, gt, au, li, al, ba, po, rv, he, aT, aE, pa, cl, nl, rl, pl) v1 := by
  unfold wpX_distrust
  refine tx_isA0 hb ?_
  exact br_t rfl h
theorem ty_distrust_a {post : Int32 → SY → Prop} {v1 : Int32} (hb : v1 < 0 ∨ nI 3 ≤ v1) (h : post (-1) ((nI m), vY, is, su, ik, sk, fr, tt, te, re, hY, an, le, st, fo, co, ls, ne, na, pY, ro)) : wpY_distrust post ((nI m), vY, is, su, ik, sk, fr, tt, te, re, hY, an, le, st, fo, co, ls, ne, na, pY, ro) v1 := by
  unfold wpY_distrust
  by_cases z : v1 < 0
  · exact br_t z h
  · exact br_f z (br_f (Int32.not_le.mpr (vq_2 (hb.resolve_left z))) h)
theorem tx_distrust {post : Int32 → SX → Prop} {a : Nat} (ha : a < 3) (h0 : aT a = 0 → post (-2) ((nI m), aX, ie, se, sf, gf, gt, au, li, al, ba, po, rv, he, aT, aE, pa, cl, nl, rl, pl)) (h1 : ¬ aT a = 0 → post 0 ((nI m), aX, ie, se, sf, gf, gt, au, li, al, ba, po, rv, he, upd aT a 0, aE, pa, cl, nl, rl, pl)) : wpX_distrust post ((nI m), aX, ie, se, sf, gf, gt, au, li, al, ba, po, rv, he, aT, aE, pa, cl, nl, rl, pl) (nI a) := by
  have e1 : (nI a).toNatClampNeg = a := nI_clamp (by omega)
  have v : vp_in (nI a) 3 := vp_in_nI (by omega) (by omega)
  unfold wpX_distrust
  dsimp only
  rw [e1, tn_0]
  refine tx_isA1 ha ?_
  exact br_f (by decide) ⟨v, br_c h0 (fun g => ⟨v, nm_e (h1 g)⟩)⟩
theorem ty_distrust {post : Int32 → SY → Prop} {a : Nat} (ha : a < 3) (h0 : ¬ 0 ≤ an a → post (-2) ((nI m), vY, is, su, ik, sk, fr, tt, te, re, hY, an, le, st, fo, co, ls, ne, na, pY, ro)) (h1 : 0 ≤ an a → post 0 ((nI m), vY, is, su, ik, sk, fr, tt, te, re, hY, upd an a (-1), le, st, fo, co, ls, ne, na, pY, ro)) : wpY_distrust post ((nI m), vY, is, su, ik, sk, fr, tt, te, re, hY, an, le, st, fo, co, ls, ne, na, pY, ro) (nI a) := by
  have e1 : (nI a).toNatClampNeg = a := nI_clamp (by omega)
  have v : vp_in (nI a) 3 := vp_in_nI (by omega) (by omega)
  unfold wpY_distrust
  dsimp only
  rw [e1]
  exact br_f (nI_pos (by omega)) (br_t (nI_le (b := 2) (by omega) (by omega)) ⟨v, br_c (fun g => ⟨v, nm_e (h1 g)⟩) h0⟩)
end
end
section
/-! what changes the certificates and the anchors, related -/
section
variable {m : Nat} {ie se sf au li al ba po rv aT aE is su ik sk te re an : Nat → Int32}
theorem tr_set0 {c x : Nat} (hx : x ≤ 1) (hT : ∀ d, d < m → tr_T au li al ba po te d) : ∀ d, d < m → tr_T (upd au c (nI x)) li al ba po (upd te (5 * c) (nI x)) d := by
  have hx2 : nI x = 0 ∨ nI x = 1 := by
    by_cases z : x = 0
    · exact Or.inl (by rw [z]; rfl)
    · have z2 : x = 1 := by omega
      exact Or.inr (by rw [z2]; rfl)
  intro d hd
  obtain ⟨t0, a1, t1, a2, t2, t3, t4⟩ := hT d hd
  by_cases e : d = c
  · subst e
    exact ⟨pk_us.trans pk_us.symm, (by rw [pk_us]; exact hx2), (pk_un (by omega)).trans t1, a2, (pk_un (by omega)).trans t2, (pk_un (by omega)).trans t3, (pk_un (by omega)).trans t4⟩
  · exact ⟨(pk_un (by omega)).trans (t0.trans (pk_un e).symm), (by rw [pk_un e]; exact a1), (pk_un (by omega)).trans t1, a2, (pk_un (by omega)).trans t2, (pk_un (by omega)).trans t3, (pk_un (by omega)).trans t4⟩
theorem tr_set1 {c x : Nat} (hx : x ≤ 4) (hT : ∀ d, d < m → tr_T au li al ba po te d) : ∀ d, d < m → tr_T au (upd li c (nI x)) al ba po (upd te (5 * c + 1) (nI x)) d := by
  intro d hd
  obtain ⟨t0, a1, t1, a2, t2, t3, t4⟩ := hT d hd
  by_cases e : d = c
  · subst e
    exact ⟨(pk_un (by omega)).trans t0, a1, pk_us.trans pk_us.symm, ⟨x, hx, pk_us⟩, (pk_un (by omega)).trans t2, (pk_un (by omega)).trans t3, (pk_un (by omega)).trans t4⟩
  · exact ⟨(pk_un (by omega)).trans t0, a1, (pk_un (by omega)).trans (t1.trans (pk_un e).symm), (by rw [pk_un e]; exact a2), (pk_un (by omega)).trans t2, (pk_un (by omega)).trans t3, (pk_un (by omega)).trans t4⟩
theorem tr_set2 {c x : Nat} (hx : x ≤ 255) (hT : ∀ d, d < m → tr_T au li al ba po te d) : ∀ d, d < m → tr_T au li (upd al c (nI x)) ba po (upd te (5 * c + 2) (nI x)) d := by
  intro d hd
  obtain ⟨t0, a1, t1, a2, t2, t3, t4⟩ := hT d hd
  by_cases e : d = c
  · subst e
    exact ⟨(pk_un (by omega)).trans t0, a1, (pk_un (by omega)).trans t1, a2, pk_us.trans pk_us.symm, (pk_un (by omega)).trans t3, (pk_un (by omega)).trans t4⟩
  · exact ⟨(pk_un (by omega)).trans t0, a1, (pk_un (by omega)).trans t1, a2, (pk_un (by omega)).trans (t2.trans (pk_un e).symm), (pk_un (by omega)).trans t3, (pk_un (by omega)).trans t4⟩
theorem tr_set3 {c x : Nat} (hx : x ≤ 255) (hT : ∀ d, d < m → tr_T au li al ba po te d) : ∀ d, d < m → tr_T au li al (upd ba c (nI x)) po (upd te (5 * c + 3) (nI x)) d := by
  intro d hd
  obtain ⟨t0, a1, t1, a2, t2, t3, t4⟩ := hT d hd
  by_cases e : d = c
  · subst e
    exact ⟨(pk_un (by omega)).trans t0, a1, (pk_un (by omega)).trans t1, a2, (pk_un (by omega)).trans t2, pk_us.trans pk_us.symm, (pk_un (by omega)).trans t4⟩
  · exact ⟨(pk_un (by omega)).trans t0, a1, (pk_un (by omega)).trans t1, a2, (pk_un (by omega)).trans t2, (pk_un (by omega)).trans (t3.trans (pk_un e).symm), (pk_un (by omega)).trans t4⟩
theorem tr_set4 {c x : Nat} (hx : x ≤ 15) (hT : ∀ d, d < m → tr_T au li al ba po te d) : ∀ d, d < m → tr_T au li al ba (upd po c (nI x)) (upd te (5 * c + 4) (nI x)) d := by
  intro d hd
  obtain ⟨t0, a1, t1, a2, t2, t3, t4⟩ := hT d hd
  by_cases e : d = c
  · subst e
    exact ⟨(pk_un (by omega)).trans t0, a1, (pk_un (by omega)).trans t1, a2, (pk_un (by omega)).trans t2, (pk_un (by omega)).trans t3, pk_us.trans pk_us.symm⟩
  · exact ⟨(pk_un (by omega)).trans t0, a1, (pk_un (by omega)).trans t1, a2, (pk_un (by omega)).trans t2, (pk_un (by omega)).trans t3, (pk_un (by omega)).trans (t4.trans (pk_un e).symm)⟩
theorem tr_makeE {a b : Nat} {z : Int32} (ha : a < 64) (hb : b < 100) (hz : z = 0 ↔ ¬ a / 8 = a % 8) (hE : ∀ c, c < m → tr_E ie se sf is su ik sk c) : ∀ c, c < m + 1 → tr_E (upd ie m (nI (10 * (a / 8) + b / 10))) (upd se m (nI (10 * (a % 8) + b % 10))) (upd sf m z) (upd is m (nI (a / 8))) (upd su m (nI (a % 8))) (upd ik m (nI (b / 10))) (upd sk m (nI (b % 10))) c := by
  intro c hc
  by_cases e : c = m
  · subst e
    exact ⟨a / 8, a % 8, b / 10, b % 10, by omega, by omega, by omega, by omega, pk_us, pk_us, pk_us, pk_us, pk_us, pk_us, by rw [pk_us]; exact hz⟩
  · have h := hE c (by omega)
    unfold tr_E at h ⊢
    rw [pk_un e, pk_un e, pk_un e, pk_un e, pk_un e, pk_un e, pk_un e]
    exact h
theorem tr_makeT (hT : ∀ c, c < m → tr_T au li al ba po te c) : ∀ c, c < m + 1 → tr_T (upd au m 1) (upd li m 4) (upd al m 255) (upd ba m 0) (upd po m 15) (upd (upd (upd (upd (upd te (5 * m) 1) (5 * m + 1) 4) (5 * m + 2) 255) (5 * m + 3) 0) (5 * m + 4) 15) c := by
  intro c hc
  have hu : ∀ x, x < 5 * m → upd (upd (upd (upd (upd te (5 * m) 1) (5 * m + 1) 4) (5 * m + 2) 255) (5 * m + 3) 0) (5 * m + 4) 15 x = te x := by
    intro x hx
    rw [pk_un (by omega), pk_un (by omega), pk_un (by omega), pk_un (by omega), pk_un (by omega)]
  by_cases e : c = m
  · subst e
    refine ⟨?_, ?_, ?_, ⟨4, by omega, pk_us⟩, ?_, ?_, ?_⟩
    · rw [pk_un (by omega), pk_un (by omega), pk_un (by omega), pk_un (by omega), pk_us, pk_us]
    · rw [pk_us]; exact Or.inr rfl
    · rw [pk_un (by omega), pk_un (by omega), pk_un (by omega), pk_us, pk_us]
    · rw [pk_un (by omega), pk_un (by omega), pk_us, pk_us]
    · rw [pk_un (by omega), pk_us, pk_us]
    · rw [pk_us, pk_us]
  · have h := hT c (by omega)
    unfold tr_T at h ⊢
    rw [hu _ (by omega), hu _ (by omega), hu _ (by omega), hu _ (by omega), hu _ (by omega), pk_un e, pk_un e, pk_un e, pk_un e, pk_un e]
    exact h
theorem tr_makeV (hV : ∀ c, c < m → tr_V rv re c) : ∀ c, c < m + 1 → tr_V (upd rv m 101) (upd re m 1000) c := by
  intro c hc
  by_cases e : c = m
  · subst e
    exact Or.inl ⟨pk_us, pk_us⟩
  · have h := hV c (by omega)
    unfold tr_V at h ⊢
    rw [pk_un e, pk_un e]
    exact h
theorem tr_revV {d t : Nat} (ht : t ≤ 100) (hV : ∀ c, c < m → tr_V rv re c) : ∀ c, c < m → tr_V (upd rv d (nI t)) (upd re d (nI t)) c := by
  intro c hc
  by_cases e : c = d
  · subst e
    exact Or.inr ⟨t, ht, pk_us, pk_us⟩
  · have h := hV c (by omega)
    unfold tr_V at h ⊢
    rw [pk_un e, pk_un e]
    exact h
theorem tr_ancA {d e : Nat} (he : e < 80) (hA : ∀ a, a < 3 → tr_A aT aE an a) : ∀ a, a < 3 → tr_A (upd aT d 1) (upd aE d (nI e)) (upd an d (nI e)) a := by
  intro a ha
  by_cases z : a = d
  · subst z
    exact Or.inr ⟨by rw [pk_us]; decide, e, he, pk_us, pk_us⟩
  · have h := hA a ha
    unfold tr_A at h ⊢
    rw [pk_un z, pk_un z, pk_un z]
    exact h
theorem tr_disA {d : Nat} (hA : ∀ a, a < 3 → tr_A aT aE an a) : ∀ a, a < 3 → tr_A (upd aT d 0) aE (upd an d (-1)) a := by
  intro a ha
  by_cases z : a = d
  · subst z
    exact Or.inl ⟨pk_us, pk_us⟩
  · have h := hA a ha
    unfold tr_A at h ⊢
    rw [pk_un z, pk_un z]
    exact h
end
section
variable {is su ik sk fr tt te re hY le st fo co ls ne na pY ro : Nat → Int32}
theorem ty_init {post : SY → Prop} (H : ∀ an, (∀ a, a < 3 → an a = -1) → post (0, 0, is, su, ik, sk, fr, tt, te, re, hY, an, le, st, fo, co, ls, ne, na, pY, ro)) : ∀ (j i : Nat) (an : Nat → Int32) (n : Nat), i + j = 3 → j < n → (∀ a, a < i → an a = -1) → wY_init_157 post 0 0 n (nI i) is su ik sk fr tt te re hY an le st fo co ls ne na pY ro := by
  intro j
  induction j with
  | zero =>
    intro i an n hj hn h
    obtain ⟨n, rfl⟩ : ∃ k, n = k + 1 := ⟨n - 1, by omega⟩
    exact br_t (nI_le (a := 3) (by omega) (by omega)) (H an (fun a ha => h a (by omega)))
  | succ j ih =>
    intro i an n hj hn h
    obtain ⟨n, rfl⟩ : ∃ k, n = k + 1 := ⟨n - 1, by omega⟩
    have e : (nI i).toNatClampNeg = i := nI_clamp (by omega)
    rw [wY_init_157]
    dsimp only
    rw [e]
    refine br_f (nI_ge (b := 3) (by omega) (by omega)) ⟨vp_in_nI (by omega) (by omega), nm_e (nm_r (nI_1 i) (ih (i + 1) _ n (by omega) (by omega) ?_))⟩
    intro a ha
    by_cases z : a = i
    · rw [z]; exact pk_us
    · rw [pk_un z]
      exact h a (by omega)
end
end
section
/-! what is owed -/
theorem i_vc0 : wpX_init (fun u => wpY_init (fun v => i_Rel 0 u v)) := by
  refine ⟨4, ?_⟩
  refine ty_init (fun an h => ?_) 3 0 (fun _ => 0) 4 (by omega) (by omega) (fun a ha => absurd ha (Nat.not_lt_zero _))
  exact ⟨0, by omega, rfl, rfl, rfl, rfl, rfl, fun _ _ => rfl, fun c hc => absurd hc (Nat.not_lt_zero _), fun c hc => absurd hc (Nat.not_lt_zero _), fun c hc => absurd hc (Nat.not_lt_zero _), fun a ha => Or.inl ⟨rfl, h a ha⟩⟩
theorem i_vc_make {k : Nat} {u : SX} {v : SY} (I : i_Rel k u v) (hk : k + 4 ≤ 2048) (v1 : Int32) (v2 : Int32) : wpX_make (fun r u' => wpY_make (fun r' v' => r' = r ∧ i_Rel (k + 4) u' v') v v1 v2) u v1 v2 := by
  obtain ⟨mX, aX, ie, se, sf, gf, gt, au, li, al, ba, po, rv, he, aT, aE, pa, cl, nl, rl, pl⟩ := u
  obtain ⟨mY, vY, is, su, ik, sk, fr, tt, te, re, hY, an, le, st, fo, co, ls, ne, na, pY, ro⟩ := v
  obtain ⟨m, h12, rfl, rfl, rfl, rfl, rfl, h0, hE, hT, hV, hA⟩ := I
  rcases vq_in v1 64 (by omega) with hb | ⟨a, ha, rfl⟩
  · refine tx_make_n hb ?_
    refine ty_make_n hb ?_
    exact ⟨rfl, ⟨m, h12, rfl, rfl, rfl, rfl, rfl, h0, hE, hT, hV, hA⟩⟩
  rcases vq_in v2 100 (by omega) with hb | ⟨b, hb, rfl⟩
  · refine tx_make_k ha hb ?_
    refine ty_make_k ha hb ?_
    exact ⟨rfl, ⟨m, h12, rfl, rfl, rfl, rfl, rfl, h0, hE, hT, hV, hA⟩⟩
  by_cases hm : m < 12
  · refine tx_make hm ha hb (fun z hz => ?_)
    refine ty_make hm ha hb ?_
    have e0 : upd he m 0 = he := by
      funext c
      by_cases e : c = m
      · rw [e, pk_us, h0 m (Nat.le_refl _)]
      · exact pk_un e
    rw [e0]
    exact ⟨rfl, m + 1, by omega, rfl, rfl, rfl, rfl, rfl, fun c hc => h0 c (by omega), tr_makeE ha hb hz hE, tr_makeT hT, tr_makeV hV, hA⟩
  · refine tx_make_f (by omega) ha hb ?_
    refine ty_make_f (by omega) ha hb ?_
    exact ⟨rfl, ⟨m, h12, rfl, rfl, rfl, rfl, rfl, h0, hE, hT, hV, hA⟩⟩
theorem i_vc_times {k : Nat} {u : SX} {v : SY} (I : i_Rel k u v) (hk : k + 4 ≤ 2048) (v1 : Int32) (v2 : Int32) (v3 : Int32) : wpX_times (fun r u' => wpY_times (fun r' v' => r' = r ∧ i_Rel (k + 4) u' v') v v1 v2 v3) u v1 v2 v3 := by
  obtain ⟨mX, aX, ie, se, sf, gf, gt, au, li, al, ba, po, rv, he, aT, aE, pa, cl, nl, rl, pl⟩ := u
  obtain ⟨mY, vY, is, su, ik, sk, fr, tt, te, re, hY, an, le, st, fo, co, ls, ne, na, pY, ro⟩ := v
  obtain ⟨m, h12, rfl, rfl, rfl, rfl, rfl, h0, hE, hT, hV, hA⟩ := I
  rcases vq_cert v1 h12 with hb | ⟨c, hc, rfl⟩
  · refine tx_times_c hb ?_
    refine ty_times_c hb ?_
    exact ⟨rfl, ⟨m, h12, rfl, rfl, rfl, rfl, rfl, h0, hE, hT, hV, hA⟩⟩
  rcases vq_time v2 with hb | ⟨s, hs, rfl⟩
  · refine tx_times_f h12 hc hb ?_
    refine ty_times_f h12 hc hb ?_
    exact ⟨rfl, ⟨m, h12, rfl, rfl, rfl, rfl, rfl, h0, hE, hT, hV, hA⟩⟩
  rcases vq_time v3 with hb | ⟨t, ht, rfl⟩
  · refine tx_times_o h12 hc hs hb ?_
    refine ty_times_o h12 hc hs hb ?_
    exact ⟨rfl, ⟨m, h12, rfl, rfl, rfl, rfl, rfl, h0, hE, hT, hV, hA⟩⟩
  refine tx_times h12 hc hs ht (fun g => ?_) (fun g => ?_)
  · refine ty_times h12 hc hs ht (fun _ => ?_) (fun g2 => absurd g2 g)
    exact ⟨rfl, ⟨m, h12, rfl, rfl, rfl, rfl, rfl, h0, hE, hT, hV, hA⟩⟩
  · refine ty_times h12 hc hs ht (fun g2 => absurd g g2) (fun _ => ?_)
    exact ⟨rfl, ⟨m, h12, rfl, rfl, rfl, rfl, rfl, h0, hE, hT, hV, hA⟩⟩
theorem i_vc_set {k : Nat} {u : SX} {v : SY} (I : i_Rel k u v) (hk : k + 4 ≤ 2048) (v1 : Int32) (v2 : Int32) (v3 : Int32) : wpX_set (fun r u' => wpY_set (fun r' v' => r' = r ∧ i_Rel (k + 4) u' v') v v1 v2 v3) u v1 v2 v3 := by
  obtain ⟨mX, aX, ie, se, sf, gf, gt, au, li, al, ba, po, rv, he, aT, aE, pa, cl, nl, rl, pl⟩ := u
  obtain ⟨mY, vY, is, su, ik, sk, fr, tt, te, re, hY, an, le, st, fo, co, ls, ne, na, pY, ro⟩ := v
  obtain ⟨m, h12, rfl, rfl, rfl, rfl, rfl, h0, hE, hT, hV, hA⟩ := I
  rcases vq_cert v1 h12 with hb | ⟨c, hc, rfl⟩
  · refine tx_set_c hb ?_
    refine ty_set_c hb ?_
    exact ⟨rfl, ⟨m, h12, rfl, rfl, rfl, rfl, rfl, h0, hE, hT, hV, hA⟩⟩
  by_cases hn : v3 < 0
  · refine tx_set_n h12 hc hn ?_
    refine ty_set_n h12 hc hn ?_
    exact ⟨rfl, ⟨m, h12, rfl, rfl, rfl, rfl, rfl, h0, hE, hT, hV, hA⟩⟩
  obtain ⟨x, hx, rfl⟩ := nI_of hn
  rcases vq_in v2 5 (by omega) with hb | ⟨w, hw, rfl⟩
  · refine tx_set_w h12 hc hx hb ?_
    refine ty_set_w h12 hc hb ?_
    exact ⟨rfl, ⟨m, h12, rfl, rfl, rfl, rfl, rfl, h0, hE, hT, hV, hA⟩⟩
  have hw5 : w = 0 ∨ w = 1 ∨ w = 2 ∨ w = 3 ∨ w = 4 := by omega
  rcases hw5 with rfl | rfl | rfl | rfl | rfl
  · refine tx_set0 h12 hc hx (fun g => ?_) (fun g => ?_)
    · refine ty_set0 h12 hc hx (fun _ => ?_) (fun g2 => absurd g (Nat.not_le.mpr g2))
      exact ⟨(hT c hc).1, m, h12, rfl, rfl, rfl, rfl, rfl, h0, hE, tr_set0 g hT, hV, hA⟩
    · refine ty_set0 h12 hc hx (fun g2 => absurd g2 (Nat.not_le.mpr g)) (fun _ => ?_)
      exact ⟨rfl, ⟨m, h12, rfl, rfl, rfl, rfl, rfl, h0, hE, hT, hV, hA⟩⟩
  · refine tx_set1 h12 hc hx (fun g => ?_) (fun g => ?_)
    · refine ty_set1 h12 hc hx (fun _ => ?_) (fun g2 => absurd g (Nat.not_le.mpr g2))
      exact ⟨(hT c hc).2.2.1, m, h12, rfl, rfl, rfl, rfl, rfl, h0, hE, tr_set1 g hT, hV, hA⟩
    · refine ty_set1 h12 hc hx (fun g2 => absurd g2 (Nat.not_le.mpr g)) (fun _ => ?_)
      exact ⟨rfl, ⟨m, h12, rfl, rfl, rfl, rfl, rfl, h0, hE, hT, hV, hA⟩⟩
  · refine tx_set2 h12 hc hx (fun g => ?_) (fun g => ?_)
    · refine ty_set2 h12 hc hx (fun _ => ?_) (fun g2 => absurd g (Nat.not_le.mpr g2))
      exact ⟨(hT c hc).2.2.2.2.1, m, h12, rfl, rfl, rfl, rfl, rfl, h0, hE, tr_set2 g hT, hV, hA⟩
    · refine ty_set2 h12 hc hx (fun g2 => absurd g2 (Nat.not_le.mpr g)) (fun _ => ?_)
      exact ⟨rfl, ⟨m, h12, rfl, rfl, rfl, rfl, rfl, h0, hE, hT, hV, hA⟩⟩
  · refine tx_set3 h12 hc hx (fun g => ?_) (fun g => ?_)
    · refine ty_set3 h12 hc hx (fun _ => ?_) (fun g2 => absurd g (Nat.not_le.mpr g2))
      exact ⟨(hT c hc).2.2.2.2.2.1, m, h12, rfl, rfl, rfl, rfl, rfl, h0, hE, tr_set3 g hT, hV, hA⟩
    · refine ty_set3 h12 hc hx (fun g2 => absurd g2 (Nat.not_le.mpr g)) (fun _ => ?_)
      exact ⟨rfl, ⟨m, h12, rfl, rfl, rfl, rfl, rfl, h0, hE, hT, hV, hA⟩⟩
  · refine tx_set4 h12 hc hx (fun g => ?_) (fun g => ?_)
    · refine ty_set4 h12 hc hx (fun _ => ?_) (fun g2 => absurd g (Nat.not_le.mpr g2))
      exact ⟨(hT c hc).2.2.2.2.2.2, m, h12, rfl, rfl, rfl, rfl, rfl, h0, hE, tr_set4 g hT, hV, hA⟩
    · refine ty_set4 h12 hc hx (fun g2 => absurd g2 (Nat.not_le.mpr g)) (fun _ => ?_)
      exact ⟨rfl, ⟨m, h12, rfl, rfl, rfl, rfl, rfl, h0, hE, hT, hV, hA⟩⟩
theorem i_vc_revoke {k : Nat} {u : SX} {v : SY} (I : i_Rel k u v) (hk : k + 4 ≤ 2048) (v1 : Int32) (v2 : Int32) : wpX_revoke (fun r u' => wpY_revoke (fun r' v' => r' = r ∧ i_Rel (k + 4) u' v') v v1 v2) u v1 v2 := by
  obtain ⟨mX, aX, ie, se, sf, gf, gt, au, li, al, ba, po, rv, he, aT, aE, pa, cl, nl, rl, pl⟩ := u
  obtain ⟨mY, vY, is, su, ik, sk, fr, tt, te, re, hY, an, le, st, fo, co, ls, ne, na, pY, ro⟩ := v
  obtain ⟨m, h12, rfl, rfl, rfl, rfl, rfl, h0, hE, hT, hV, hA⟩ := I
  rcases vq_cert v1 h12 with hb | ⟨c, hc, rfl⟩
  · refine tx_revoke_c hb ?_
    refine ty_revoke_c hb ?_
    exact ⟨rfl, ⟨m, h12, rfl, rfl, rfl, rfl, rfl, h0, hE, hT, hV, hA⟩⟩
  rcases vq_time v2 with hb | ⟨t, ht, rfl⟩
  · refine tx_revoke_t h12 hc hb ?_
    refine ty_revoke_t h12 hc hb ?_
    exact ⟨rfl, ⟨m, h12, rfl, rfl, rfl, rfl, rfl, h0, hE, hT, hV, hA⟩⟩
  refine tx_revoke h12 hc ht ?_
  refine ty_revoke h12 hc ht ?_
  refine ⟨?_, m, h12, rfl, rfl, rfl, rfl, rfl, h0, hE, hT, tr_revV ht hV, hA⟩
  rcases hV c hc with ⟨g1, g2⟩ | ⟨x, g1, g2, g3⟩
  · rw [g1, g2]; decide
  · have k1 : ¬ (1000 : Int32) ≤ nI x := nI_ge (b := 1000) (by omega) (by omega)
    have k2 : ¬ nI x = 101 := fun z => by
      have := (nI_eq (a := x) (b := 101) (by omega) (by omega)).mp z
      omega
    rw [g2, g3, if_neg k1, if_neg k2]
theorem i_vc_hold {k : Nat} {u : SX} {v : SY} (I : i_Rel k u v) (hk : k + 4 ≤ 2048) (v1 : Int32) (v2 : Int32) : wpX_hold (fun r u' => wpY_hold (fun r' v' => r' = r ∧ i_Rel (k + 4) u' v') v v1 (lw_bz v2)) u v1 (lw_bz v2) := by
  obtain ⟨mX, aX, ie, se, sf, gf, gt, au, li, al, ba, po, rv, he, aT, aE, pa, cl, nl, rl, pl⟩ := u
  obtain ⟨mY, vY, is, su, ik, sk, fr, tt, te, re, hY, an, le, st, fo, co, ls, ne, na, pY, ro⟩ := v
  obtain ⟨m, h12, rfl, rfl, rfl, rfl, rfl, h0, hE, hT, hV, hA⟩ := I
  rcases vq_cert v1 h12 with hb | ⟨c, hc, rfl⟩
  · refine tx_hold_c hb ?_
    refine ty_hold_c hb ?_
    exact ⟨rfl, ⟨m, h12, rfl, rfl, rfl, rfl, rfl, h0, hE, hT, hV, hA⟩⟩
  refine tx_hold h12 hc ?_
  refine ty_hold h12 hc ?_
  refine ⟨rfl, m, h12, rfl, rfl, rfl, rfl, rfl, fun d hd => ?_, hE, hT, hV, hA⟩
  rw [pk_un (by omega)]
  exact h0 d hd
theorem i_vc_anchor {k : Nat} {u : SX} {v : SY} (I : i_Rel k u v) (hk : k + 4 ≤ 2048) (v1 : Int32) (v2 : Int32) : wpX_anchor (fun r u' => wpY_anchor (fun r' v' => r' = r ∧ i_Rel (k + 4) u' v') v v1 v2) u v1 v2 := by
  obtain ⟨mX, aX, ie, se, sf, gf, gt, au, li, al, ba, po, rv, he, aT, aE, pa, cl, nl, rl, pl⟩ := u
  obtain ⟨mY, vY, is, su, ik, sk, fr, tt, te, re, hY, an, le, st, fo, co, ls, ne, na, pY, ro⟩ := v
  obtain ⟨m, h12, rfl, rfl, rfl, rfl, rfl, h0, hE, hT, hV, hA⟩ := I
  rcases vq_in v1 3 (by omega) with hb | ⟨a, ha, rfl⟩
  · refine tx_anchor_a hb ?_
    refine ty_anchor_a hb ?_
    exact ⟨rfl, ⟨m, h12, rfl, rfl, rfl, rfl, rfl, h0, hE, hT, hV, hA⟩⟩
  rcases vq_in v2 80 (by omega) with hb | ⟨e, he', rfl⟩
  · refine tx_anchor_e ha hb ?_
    refine ty_anchor_e ha hb ?_
    exact ⟨rfl, ⟨m, h12, rfl, rfl, rfl, rfl, rfl, h0, hE, hT, hV, hA⟩⟩
  refine tx_anchor ha he' ?_
  refine ty_anchor ha he' ?_
  refine ⟨?_, m, h12, rfl, rfl, rfl, rfl, rfl, h0, hE, hT, hV, tr_ancA he' hA⟩
  rcases hA a ha with ⟨g1, g2⟩ | ⟨g1, x, g2, g3, g4⟩
  · rw [g1, g2]; decide
  · rw [if_neg g1, g4, if_neg (nI_pos (by omega))]
theorem i_vc_distrust {k : Nat} {u : SX} {v : SY} (I : i_Rel k u v) (hk : k + 4 ≤ 2048) (v1 : Int32) : wpX_distrust (fun r u' => wpY_distrust (fun r' v' => r' = r ∧ i_Rel (k + 4) u' v') v v1) u v1 := by
  obtain ⟨mX, aX, ie, se, sf, gf, gt, au, li, al, ba, po, rv, he, aT, aE, pa, cl, nl, rl, pl⟩ := u
  obtain ⟨mY, vY, is, su, ik, sk, fr, tt, te, re, hY, an, le, st, fo, co, ls, ne, na, pY, ro⟩ := v
  obtain ⟨m, h12, rfl, rfl, rfl, rfl, rfl, h0, hE, hT, hV, hA⟩ := I
  rcases vq_in v1 3 (by omega) with hb | ⟨a, ha, rfl⟩
  · refine tx_distrust_a hb ?_
    refine ty_distrust_a hb ?_
    exact ⟨rfl, ⟨m, h12, rfl, rfl, rfl, rfl, rfl, h0, hE, hT, hV, hA⟩⟩
  refine tx_distrust ha (fun g => ?_) (fun g => ?_)
  · refine ty_distrust ha (fun _ => ?_) (fun g2 => ?_)
    · exact ⟨rfl, ⟨m, h12, rfl, rfl, rfl, rfl, rfl, h0, hE, hT, hV, hA⟩⟩
    · exfalso
      rcases hA a ha with ⟨g3, g4⟩ | ⟨g3, _⟩
      · rw [g4] at g2
        exact absurd g2 (by decide)
      · exact g3 g
  · refine ty_distrust ha (fun g2 => ?_) (fun _ => ?_)
    · exfalso
      rcases hA a ha with ⟨g3, _⟩ | ⟨_, x, g4, g5, g6⟩
      · exact g g3
      · rw [g6] at g2
        exact g2 (nI_pos' (by omega))
    · exact ⟨rfl, m, h12, rfl, rfl, rfl, rfl, rfl, h0, hE, hT, hV, tr_disA hA⟩
theorem i_vc_trusted {k : Nat} {u : SX} {v : SY} (I : i_Rel k u v) (hk : k + 4 ≤ 2048) (v1 : Int32) (v2 : Int32) : wpX_trusted (fun r u' => wpY_trusted (fun r' v' => r' = r ∧ i_Rel (k + 4) u' v') v v1 v2) u v1 v2 := by
  obtain ⟨mX, aX, ie, se, sf, gf, gt, au, li, al, ba, po, rv, he, aT, aE, pa, cl, nl, rl, pl⟩ := u
  obtain ⟨mY, vY, is, su, ik, sk, fr, tt, te, re, hY, an, le, st, fo, co, ls, ne, na, pY, ro⟩ := v
  obtain ⟨m, h12, rfl, rfl, rfl, rfl, rfl, h0, hE, hT, hV, hA⟩ := I
  exact vq_trusted (D := tr_D m ie se sf au li al ba po aT aE) (Q := i_Rel (k + 4)) (tr_H h12 hE hT hV hA) (fun _ _ _ _ _ _ _ _ _ _ _ _ _ _ _ _ => ⟨m, h12, rfl, rfl, rfl, rfl, rfl, h0, hE, hT, hV, hA⟩) v1 v2
theorem i_vc_length {k : Nat} {u : SX} {v : SY} (I : i_Rel k u v) (hk : k + 4 ≤ 2048) (v1 : Int32) (v2 : Int32) : wpX_length (fun r u' => wpY_length (fun r' v' => r' = r ∧ i_Rel (k + 4) u' v') v v1 v2) u v1 v2 := by
  obtain ⟨mX, aX, ie, se, sf, gf, gt, au, li, al, ba, po, rv, he, aT, aE, pa, cl, nl, rl, pl⟩ := u
  obtain ⟨mY, vY, is, su, ik, sk, fr, tt, te, re, hY, an, le, st, fo, co, ls, ne, na, pY, ro⟩ := v
  obtain ⟨m, h12, rfl, rfl, rfl, rfl, rfl, h0, hE, hT, hV, hA⟩ := I
  exact vq_length (D := tr_D m ie se sf au li al ba po aT aE) (Q := i_Rel (k + 4)) (tr_H h12 hE hT hV hA) (fun _ _ _ _ _ _ _ _ _ _ _ _ _ _ _ _ => ⟨m, h12, rfl, rfl, rfl, rfl, rfl, h0, hE, hT, hV, hA⟩) v1 v2
theorem i_vc_step {k : Nat} {u : SX} {v : SY} (I : i_Rel k u v) (hk : k + 4 ≤ 2048) (v1 : Int32) (v2 : Int32) (v3 : Int32) : wpX_step (fun r u' => wpY_step (fun r' v' => r' = r ∧ i_Rel (k + 4) u' v') v v1 v2 v3) u v1 v2 v3 := by
  obtain ⟨mX, aX, ie, se, sf, gf, gt, au, li, al, ba, po, rv, he, aT, aE, pa, cl, nl, rl, pl⟩ := u
  obtain ⟨mY, vY, is, su, ik, sk, fr, tt, te, re, hY, an, le, st, fo, co, ls, ne, na, pY, ro⟩ := v
  obtain ⟨m, h12, rfl, rfl, rfl, rfl, rfl, h0, hE, hT, hV, hA⟩ := I
  exact vq_step (D := tr_D m ie se sf au li al ba po aT aE) (Q := i_Rel (k + 4)) (tr_H h12 hE hT hV hA) (fun _ _ _ _ _ _ _ _ _ _ _ _ _ _ _ _ => ⟨m, h12, rfl, rfl, rfl, rfl, rfl, h0, hE, hT, hV, hA⟩) v1 v2 v3
theorem i_vc_policies {k : Nat} {u : SX} {v : SY} (I : i_Rel k u v) (hk : k + 4 ≤ 2048) (v1 : Int32) (v2 : Int32) : wpX_policies (fun r u' => wpY_policies (fun r' v' => r' = r ∧ i_Rel (k + 4) u' v') v v1 v2) u v1 v2 := by
  obtain ⟨mX, aX, ie, se, sf, gf, gt, au, li, al, ba, po, rv, he, aT, aE, pa, cl, nl, rl, pl⟩ := u
  obtain ⟨mY, vY, is, su, ik, sk, fr, tt, te, re, hY, an, le, st, fo, co, ls, ne, na, pY, ro⟩ := v
  obtain ⟨m, h12, rfl, rfl, rfl, rfl, rfl, h0, hE, hT, hV, hA⟩ := I
  exact vq_policies (D := tr_D m ie se sf au li al ba po aT aE) (Q := i_Rel (k + 4)) (tr_H h12 hE hT hV hA) (fun _ _ _ _ _ _ _ _ _ _ _ _ _ _ _ _ => ⟨m, h12, rfl, rfl, rfl, rfl, rfl, h0, hE, hT, hV, hA⟩) v1 v2
theorem i_vc_count {k : Nat} {u : SX} {v : SY} (I : i_Rel k u v) (hk : k + 4 ≤ 2048) (v1 : Int32) : wpX_count (fun r u' => wpY_count (fun r' v' => r' = r ∧ i_Rel (k + 4) u' v') v v1) u v1 := by
  obtain ⟨mX, aX, ie, se, sf, gf, gt, au, li, al, ba, po, rv, he, aT, aE, pa, cl, nl, rl, pl⟩ := u
  obtain ⟨mY, vY, is, su, ik, sk, fr, tt, te, re, hY, an, le, st, fo, co, ls, ne, na, pY, ro⟩ := v
  obtain ⟨m, h12, rfl, rfl, rfl, rfl, rfl, h0, hE, hT, hV, hA⟩ := I
  exact vq_count (D := tr_D m ie se sf au li al ba po aT aE) (Q := i_Rel (k + 4)) (tr_H h12 hE hT hV hA) (fun _ _ _ _ _ _ _ _ _ _ _ _ _ _ _ _ => ⟨m, h12, rfl, rfl, rfl, rfl, rfl, h0, hE, hT, hV, hA⟩) v1
theorem i_vc_keysOf {k : Nat} {u : SX} {v : SY} (I : i_Rel k u v) (hk : k + 4 ≤ 2048) (v1 : Int32) (v2 : Int32) (v3 : Int32) : wpX_keysOf (fun r u' => wpY_keysOf (fun r' v' => r' = r ∧ i_Rel (k + 4) u' v') v v1 v2 v3) u v1 v2 v3 := by
  obtain ⟨mX, aX, ie, se, sf, gf, gt, au, li, al, ba, po, rv, he, aT, aE, pa, cl, nl, rl, pl⟩ := u
  obtain ⟨mY, vY, is, su, ik, sk, fr, tt, te, re, hY, an, le, st, fo, co, ls, ne, na, pY, ro⟩ := v
  obtain ⟨m, h12, rfl, rfl, rfl, rfl, rfl, h0, hE, hT, hV, hA⟩ := I
  exact vq_keysOf (D := tr_D m ie se sf au li al ba po aT aE) (Q := i_Rel (k + 4)) (tr_H h12 hE hT hV hA) (fun _ _ _ _ _ _ _ _ _ _ _ _ _ _ _ _ => ⟨m, h12, rfl, rfl, rfl, rfl, rfl, h0, hE, hT, hV, hA⟩) v1 v2 v3
theorem i_vc_until {k : Nat} {u : SX} {v : SY} (I : i_Rel k u v) (hk : k + 4 ≤ 2048) (v1 : Int32) (v2 : Int32) : wpX_until (fun r u' => wpY_until (fun r' v' => r' = r ∧ i_Rel (k + 4) u' v') v v1 v2) u v1 v2 := by
  obtain ⟨mX, aX, ie, se, sf, gf, gt, au, li, al, ba, po, rv, he, aT, aE, pa, cl, nl, rl, pl⟩ := u
  obtain ⟨mY, vY, is, su, ik, sk, fr, tt, te, re, hY, an, le, st, fo, co, ls, ne, na, pY, ro⟩ := v
  obtain ⟨m, h12, rfl, rfl, rfl, rfl, rfl, h0, hE, hT, hV, hA⟩ := I
  exact vq_until (D := tr_D m ie se sf au li al ba po aT aE) (Q := i_Rel (k + 4)) (tr_H h12 hE hT hV hA) (fun _ _ _ _ _ _ _ _ _ _ _ _ _ _ _ _ => ⟨m, h12, rfl, rfl, rfl, rfl, rfl, h0, hE, hT, hV, hA⟩) v1 v2
theorem i_vc_depending {k : Nat} {u : SX} {v : SY} (I : i_Rel k u v) (hk : k + 4 ≤ 2048) (v1 : Int32) (v2 : Int32) : wpX_depending (fun r u' => wpY_depending (fun r' v' => r' = r ∧ i_Rel (k + 4) u' v') v v1 v2) u v1 v2 := by
  obtain ⟨mX, aX, ie, se, sf, gf, gt, au, li, al, ba, po, rv, he, aT, aE, pa, cl, nl, rl, pl⟩ := u
  obtain ⟨mY, vY, is, su, ik, sk, fr, tt, te, re, hY, an, le, st, fo, co, ls, ne, na, pY, ro⟩ := v
  obtain ⟨m, h12, rfl, rfl, rfl, rfl, rfl, h0, hE, hT, hV, hA⟩ := I
  exact vq_depending (D := tr_D m ie se sf au li al ba po aT aE) (Q := i_Rel (k + 4)) (tr_H h12 hE hT hV hA) (fun _ _ _ _ _ _ _ _ _ _ _ _ _ _ _ _ => ⟨m, h12, rfl, rfl, rfl, rfl, rfl, h0, hE, hT, hV, hA⟩) v1 v2
theorem i_vc_narrow {k : Nat} {u : SX} {v : SY} (I : i_Rel k u v) (hk : k + 4 ≤ 2048) (v1 : Int32) (v2 : Int32) : wpX_narrow (fun r u' => wpY_narrow (fun r' v' => r' = r ∧ i_Rel (k + 4) u' v') v v1 v2) u v1 v2 := by
  obtain ⟨mX, aX, ie, se, sf, gf, gt, au, li, al, ba, po, rv, he, aT, aE, pa, cl, nl, rl, pl⟩ := u
  obtain ⟨mY, vY, is, su, ik, sk, fr, tt, te, re, hY, an, le, st, fo, co, ls, ne, na, pY, ro⟩ := v
  obtain ⟨m, h12, rfl, rfl, rfl, rfl, rfl, h0, hE, hT, hV, hA⟩ := I
  exact vq_narrow (D := tr_D m ie se sf au li al ba po aT aE) (Q := i_Rel (k + 4)) (tr_H h12 hE hT hV hA) (fun _ _ _ _ _ _ _ _ _ _ _ _ _ _ _ _ => ⟨m, h12, rfl, rfl, rfl, rfl, rfl, h0, hE, hT, hV, hA⟩) v1 v2
end
