section
/-! rows of the kit's own PURE-ROWS, pasted -/
theorem pk_us {f : Nat → Int32} {k : Nat} {x : Int32} : upd f k x k = x := if_pos rfl
theorem pk_un {f : Nat → Int32} {k j : Nat} {x : Int32} (h : j ≠ k) : upd f k x j = f j := if_neg h
theorem pk_sub {a b : Nat} (h : b ≤ a) : nI a - nI b = nI (a - b) := by
  obtain ⟨c, rfl⟩ : ∃ c, a = c + b := ⟨a - b, by omega⟩
  rw [← nI_add, Int32.add_sub_cancel, Nat.add_sub_cancel]
theorem pk_m1 (n : Nat) : nI (n + 1) + (-1) = nI n := by
  rw [← nI_1, Int32.add_assoc, show (1 : Int32) + (-1) = 0 from rfl, Int32.add_zero]
theorem pk_mul (a b : Nat) : nI a * nI b = nI (a * b) := (Int32.ofNat_mul a b).symm
theorem pk_ix (x : Int32) {n : Nat} (hn : n < 2 ^ 31) : x < 0 ∨ nI n ≤ x ∨ ∃ j : Nat, j < n ∧ x = nI j := by
  by_cases h : x < 0
  · exact Or.inl h
  · obtain ⟨j, hj, rfl⟩ := nI_of h
    by_cases h2 : j < n
    · exact Or.inr (Or.inr ⟨j, h2, rfl⟩)
    · exact Or.inr (Or.inl (nI_le (by omega) hj))
theorem pk_le {x y : Int32} {A B : Prop} (a b : Nat) (f : a ≤ b → A) (g : b < a → B) (hx : x = nI a := by rfl) (hy : y = nI b := by rfl) (ha : a < 2 ^ 31 := by omega) (hb : b < 2 ^ 31 := by omega) : (x ≤ y → A) ∧ (¬ x ≤ y → B) := by
  subst hx hy
  rw [nI_leI ha hb]
  exact ⟨f, fun z => g (by omega)⟩
theorem pk_lt {x y : Int32} {A B : Prop} (a b : Nat) (f : a < b → A) (g : b ≤ a → B) (hx : x = nI a := by rfl) (hy : y = nI b := by rfl) (ha : a < 2 ^ 31 := by omega) (hb : b < 2 ^ 31 := by omega) : (x < y → A) ∧ (¬ x < y → B) := by
  subst hx hy
  rw [nI_ltI ha hb]
  exact ⟨f, fun z => g (by omega)⟩
theorem pk_eq {x y : Int32} {A B : Prop} (a b : Nat) (f : a = b → A) (g : a ≠ b → B) (hx : x = nI a := by rfl) (hy : y = nI b := by rfl) (ha : a < 2 ^ 31 := by omega) (hb : b < 2 ^ 31 := by omega) : (x = y → A) ∧ (¬ x = y → B) := by
  subst hx hy
  rw [nI_eq ha hb]
  exact ⟨f, g⟩
theorem pk_in {x : Int32} (n N : Nat) (h : n < N) (hx : x = nI n := by rfl) (hN : N < 2 ^ 31 := by omega) : vp_in x N := by
  subst hx
  exact vp_in_nI h hN
theorem pk_cl {x : Int32} (n : Nat) (hx : x = nI n := by rfl) (h : n < 2 ^ 31 := by omega) : x.toNatClampNeg = n := by
  subst hx
  exact nI_clamp h
theorem pk_tn {n : Nat} (h : n < 2 ^ 32) : (nI n).toBitVec.toNat = n := Nat.mod_eq_of_lt h
theorem pk_and (x : Int32) {m : Int32} (k : Nat) (hm : m.toBitVec.toNat = 2 ^ k - 1) : x &&& m = nI (x.toBitVec.toNat % 2 ^ k) := by
  apply Int32.toBitVec_inj.mp
  apply BitVec.eq_of_toNat_eq
  rw [Int32.toBitVec_and, BitVec.toNat_and, hm, Nat.and_two_pow_sub_one_eq_mod]
  show _ = (BitVec.ofNat 32 _).toNat
  rw [BitVec.toNat_ofNat]
  exact (Nat.mod_eq_of_lt (Nat.lt_of_le_of_lt (Nat.mod_le _ _) x.toBitVec.isLt)).symm
theorem pk_andE (x : Int32) {m : Int32} (k : Nat) (hm : m.toBitVec.toNat = 2 ^ k - 1) : ∃ j : Nat, j < 2 ^ k ∧ x &&& m = nI j := ⟨_, Nat.mod_lt _ (Nat.two_pow_pos k), pk_and x k hm⟩
/-! arithmetic over Int32 without overflow -/
theorem ra_add {x y : Int32} {a b : Int} (hx : x.toInt = a) (hy : y.toInt = b) (h1 : -2147483648 ≤ a + b) (h2 : a + b < 2147483648) : (x + y).toInt = a + b := by
  rw [Int32.toInt_add, hx, hy]
  exact Int.bmod_eq_of_le (by omega) (by omega)
theorem ra_sbt {x y : Int32} {a b : Int} (hx : x.toInt = a) (hy : y.toInt = b) (h1 : -2147483648 ≤ a - b) (h2 : a - b < 2147483648) : (x - y).toInt = a - b := by
  rw [Int32.toInt_sub, hx, hy]
  exact Int.bmod_eq_of_le (by omega) (by omega)
theorem ra_m10 (m : Nat) : nI m * 10 = nI (m * 10) := pk_mul m 10
/-! a loop that counts up, one that counts down -/
theorem ra_lp (W : Nat → Nat → Prop) (e : Nat) (hx : ∀ n, W (n + 1) e) (hs : ∀ n i, i < e → W n (i + 1) → W (n + 1) i) : ∀ d i, i + d = e → W (d + 1) i := by
  intro d
  induction d with
  | zero =>
    intro i hi
    obtain rfl : i = e := by omega
    exact hx 0
  | succ d ih =>
    intro i hi
    exact hs (d + 1) i (by omega) (ih (i + 1) (by omega))
theorem ra_lp0 (W : Nat → Nat → Prop) (e : Nat) (hx : ∀ n, W (n + 1) e) (hs : ∀ n i, i < e → W n (i + 1) → W (n + 1) i) : ∃ n, W n 0 := ⟨e + 1, ra_lp W e hx hs e 0 (by omega)⟩
/-! the bucket: tokens after w units -/
def ra_min (T R B w : Int32) : Int32 := if B ≤ T + R * w then B else T + R * w
def ra_mn (a b : Nat) : Nat := if a < b then a else b
theorem ra_mn_le (a b : Nat) : ra_mn a b ≤ b := by
  unfold ra_mn
  split <;> omega
theorem ra_mn_a (a b : Nat) : ra_mn a b ≤ a := by
  unfold ra_mn
  split <;> omega
theorem ra_mn_b {a b : Nat} (h : b ≤ a) : ra_mn a b = b := if_neg (by omega)
theorem ra_mn_c {a b : Nat} (h : a ≤ b) : ra_mn a b = a := by
  unfold ra_mn
  split <;> omega
theorem ra_stp (t r b i : Nat) : (b < ra_mn (t + r * i) b + r ∧ ra_mn (t + r * (i + 1)) b = b) ∨ (ra_mn (t + r * i) b + r ≤ b ∧ ra_mn (t + r * (i + 1)) b = ra_mn (t + r * i) b + r) := by
  rw [Nat.mul_succ]
  generalize r * i = z
  unfold ra_mn
  split <;> split <;> omega
theorem ra_min_n {t r b w : Nat} (ht : t ≤ 30) (hr : r ≤ 5) (hb : b ≤ 30) (hw : w ≤ 1000) : ra_min (nI t) (nI r) (nI b) (nI w) = nI (ra_mn (t + r * w) b) := by
  have h : r * w ≤ 5000 := Nat.mul_le_mul hr hw
  unfold ra_min
  rw [pk_mul, nI_add]
  generalize r * w = z at h
  by_cases g : b ≤ t + z
  · rw [if_pos ((nI_leI (by omega) (by omega)).mpr g), ra_mn_b g]
  · rw [if_neg (fun y => g ((nI_leI (by omega) (by omega)).mp y)), ra_mn_c (by omega)]
/-! the log: what still counts after w units -/
def ra_sum (L : Nat → Int32) (S w : Int32) (b : Nat) : Nat → Int32
  | 0 => 0
  | i + 1 => if S ≤ nI i + w then ra_sum L S w b i else ra_sum L S w b i + L (b + i)
def ra_Lg (L : Nat → Int32) : Prop := ∀ j, j < 40 → ∃ e : Nat, e ≤ 30 ∧ L j = nI e
theorem ra_Lg_u {L : Nat → Int32} (h : ra_Lg L) (k e : Nat) (he : e ≤ 30) : ra_Lg (upd L k (nI e)) := by
  intro j hj
  by_cases g : j = k
  · exact ⟨e, he, by rw [g, pk_us]⟩
  · rw [pk_un g]
    exact h j hj
theorem ra_Lg_c {L : Nat → Int32} (h : ra_Lg L) (k j : Nat) (hj : j < 40) : ra_Lg (upd L k (L j)) := by
  obtain ⟨e, he, eq⟩ := h j hj
  rw [eq]
  exact ra_Lg_u h k e he
theorem ra_sum_c {L M : Nat → Int32} (S w : Int32) (b : Nat) (h : ∀ i, i < 10 → L (b + i) = M (b + i)) : ∀ i, i ≤ 10 → ra_sum L S w b i = ra_sum M S w b i := by
  intro i
  induction i with
  | zero => intro _; rfl
  | succ i ih =>
    intro hi
    show (if S ≤ nI i + w then ra_sum L S w b i else ra_sum L S w b i + L (b + i)) = (if S ≤ nI i + w then ra_sum M S w b i else ra_sum M S w b i + M (b + i))
    rw [ih (by omega), h i (by omega)]
theorem ra_sum_n {L : Nat → Int32} (h : ra_Lg L) (S w : Int32) {b : Nat} (hb : b + 10 ≤ 40) : ∀ i, i ≤ 10 → ∃ s : Nat, s ≤ 30 * i ∧ ra_sum L S w b i = nI s := by
  intro i
  induction i with
  | zero => intro _; exact ⟨0, by omega, rfl⟩
  | succ i ih =>
    intro hi
    obtain ⟨s, hs, es⟩ := ih (by omega)
    obtain ⟨e, he, ee⟩ := h (b + i) (by omega)
    show ∃ z : Nat, z ≤ 30 * (i + 1) ∧ (if S ≤ nI i + w then ra_sum L S w b i else ra_sum L S w b i + L (b + i)) = nI z
    by_cases g : S ≤ nI i + w
    · rw [if_pos g]
      exact ⟨s, by omega, es⟩
    · rw [if_neg g, es, ee, nI_add]
      exact ⟨s + e, by omega, rfl⟩
theorem ra_sum_0 (L : Nat → Int32) {s w : Nat} (hs : s ≤ 10) (hw : w ≤ 1000) (h : s ≤ w) (b : Nat) : ∀ i, i ≤ 10 → ra_sum L (nI s) (nI w) b i = 0 := by
  intro i
  induction i with
  | zero => intro _; rfl
  | succ i ih =>
    intro hi
    show (if nI s ≤ nI i + nI w then ra_sum L (nI s) (nI w) b i else ra_sum L (nI s) (nI w) b i + L (b + i)) = 0
    rw [nI_add, if_pos (nI_le (by omega) (by omega))]
    exact ih (by omega)
theorem ra_sum_1 {L : Nat → Int32} (h : ra_Lg L) {s : Nat} (h1 : 1 ≤ s) (hs : s ≤ 10) {b e : Nat} (hb : b + 10 ≤ 40) (he : e ≤ 30) (ee : L b = nI e) : ∀ i, i < 10 → ∃ z : Nat, z ≤ 30 * (i + 1) ∧ e ≤ z ∧ ra_sum L (nI s) 0 b (i + 1) = nI z := by
  intro i
  induction i with
  | zero =>
    intro _
    refine ⟨e, by omega, Nat.le_refl e, ?_⟩
    show (if nI s ≤ nI 0 + nI 0 then nI 0 else nI 0 + L (b + 0)) = nI e
    rw [nI_add, if_neg (nI_ge (by omega) (by omega)), Nat.add_zero, ee, nI_add, Nat.zero_add]
  | succ i ih =>
    intro hi
    obtain ⟨z, hz, hez, eq⟩ := ih (by omega)
    obtain ⟨e2, he2, ee2⟩ := h (b + (i + 1)) (by omega)
    show ∃ y : Nat, y ≤ 30 * (i + 1 + 1) ∧ e ≤ y ∧ (if nI s ≤ nI (i + 1) + 0 then ra_sum L (nI s) 0 b (i + 1) else ra_sum L (nI s) 0 b (i + 1) + L (b + (i + 1))) = nI y
    by_cases g : nI s ≤ nI (i + 1) + 0
    · rw [if_pos g]
      exact ⟨z, by omega, hez, eq⟩
    · rw [if_neg g, eq, ee2, nI_add]
      exact ⟨z + e2, by omega, by omega, rfl⟩
/-! the spacer -/
def ra_st (D N : Int32) : Int32 := if D ≤ N then N else D
theorem ra_spv {D : Int32} {n w c s : Nat} (hd : -1000000 ≤ D.toInt) (hd2 : D.toInt ≤ (n : Int) + 300) (hn : n ≤ 100000) (hw : w ≤ 300) (hc : c ≤ 20) (hs : s ≤ 10) : ∃ z : Int, (z = (n : Int) + w ∨ z = D.toInt) ∧ (n : Int) + w ≤ z ∧ D.toInt ≤ z ∧ (ra_st D (nI n + nI w) + nI c * nI s).toInt = z + ((c * s : Nat) : Int) ∧ (ra_st D (nI n + nI w) + nI c * nI s - (nI n + nI w)).toInt = z + ((c * s : Nat) : Int) - ((n : Int) + w) := by
  have hcs : c * s ≤ 200 := Nat.mul_le_mul hc hs
  have e1 : (nI n + nI w).toInt = (n : Int) + w := by
    rw [nI_add, nI_toInt (by omega)]
    omega
  have e2 : (nI c * nI s).toInt = ((c * s : Nat) : Int) := by rw [pk_mul, nI_toInt (by omega)]
  generalize c * s = q at *
  generalize nI n + nI w = y at *
  generalize nI c * nI s = p at *
  by_cases g : D ≤ y
  · have g' : D.toInt ≤ y.toInt := Int32.le_iff_toInt_le.mp g
    have e3 : (y + p).toInt = (n : Int) + w + (q : Int) := ra_add e1 e2 (by omega) (by omega)
    refine ⟨(n : Int) + w, Or.inl rfl, by omega, by omega, ?_, ?_⟩
    · rw [ra_st, if_pos g]
      exact e3
    · rw [ra_st, if_pos g]
      exact ra_sbt e3 e1 (by omega) (by omega)
  · have g' : y.toInt < D.toInt := Int32.lt_iff_toInt_lt.mp (Int32.not_le.mp g)
    have e3 : (D + p).toInt = D.toInt + (q : Int) := ra_add rfl e2 (by omega) (by omega)
    refine ⟨D.toInt, Or.inr rfl, by omega, by omega, ?_, ?_⟩
    · rw [ra_st, if_neg g]
      exact e3
    · rw [ra_st, if_neg g]
      exact ra_sbt e3 e1 (by omega) (by omega)
/-! would a meter grant a cost, w units from now -/
def ra_wd (K R B S T D Q N c w : Int32) : Bool :=
  if K = 0 then !decide (ra_min T R B w < c) else if K = 1 then !decide (B < c + Q) else !decide (B * S < ra_st D (N + w) + c * S - (N + w))
theorem ra_wd0 {K R B S T D Q N c w : Int32} (h : K = 0) : ra_wd K R B S T D Q N c w = !decide (ra_min T R B w < c) := if_pos h
theorem ra_wd1 {K R B S T D Q N c w : Int32} (h : ¬ K = 0) (h1 : K = 1) : ra_wd K R B S T D Q N c w = !decide (B < c + Q) := by rw [ra_wd, if_neg h, if_pos h1]
theorem ra_wd2 {K R B S T D Q N c w : Int32} (h : ¬ K = 0) (h1 : ¬ K = 1) : ra_wd K R B S T D Q N c w = !decide (B * S < ra_st D (N + w) + c * S - (N + w)) := by rw [ra_wd, if_neg h, if_neg h1]
theorem ra_bt {p : Prop} (i : Decidable p) : (!@decide p i) = true ↔ ¬ p := by
  by_cases h : p
  · simp [h]
  · simp [h]
theorem ra_bf {p : Prop} (i : Decidable p) : (!@decide p i) = false ↔ p := by
  by_cases h : p
  · simp [h]
  · simp [h]
def ra_W (N : Int32) (K R B S T D L : Nat → Int32) (m : Nat) (c w : Int32) : Bool := ra_wd (K m) (R m) (B m) (S m) (T m) (D m) (ra_sum L (S m) w (m * 10) 10) N c w
/-! what a meter keeps to -/
def ra_M (R B S T D : Int32) (n : Nat) : Prop := ∃ r b s t : Nat, (1 ≤ r ∧ r ≤ 5 ∧ 1 ≤ b ∧ b ≤ 30 ∧ 1 ≤ s ∧ s ≤ 10 ∧ t ≤ b) ∧ R = nI r ∧ B = nI b ∧ S = nI s ∧ T = nI t ∧ -1000000 ≤ D.toInt ∧ D.toInt ≤ (n : Int) + 300
def ra_Ms (R B S T D : Nat → Int32) (n : Nat) : Prop := ∀ m, m < 4 → ra_M (R m) (B m) (S m) (T m) (D m) n
def ra_ok (N : Int32) (R B S T D L : Nat → Int32) : Prop := ∃ n : Nat, n ≤ 100000 ∧ N = nI n ∧ ra_Ms R B S T D n ∧ ra_Lg L
theorem ra_never {N : Int32} {K R B S T D L : Nat → Int32} (h : ra_ok N R B S T D L) {m c w : Nat} (hm : m < 4) (hc : c ≤ 20) (hw : w ≤ 300) (hb : ¬ nI c ≤ B m) : ra_W N K R B S T D L m (nI c) (nI w) = false := by
  obtain ⟨n, hn, rfl, hM, hL⟩ := h
  obtain ⟨r, b, s, t, ⟨hr1, hr, hb1, hb2, hs1, hs, ht⟩, eR, eB, eS, eT, hd, hd2⟩ := hM m hm
  rw [eB, nI_leI (by omega) (by omega)] at hb
  unfold ra_W
  by_cases k0 : K m = 0
  · rw [ra_wd0 k0, ra_bf, eR, eB, eT, ra_min_n (by omega) hr hb2 (by omega)]
    have := ra_mn_le (t + r * w) b
    exact nI_lt (by omega) (by omega)
  · by_cases k1 : K m = 1
    · obtain ⟨q, hq, eq⟩ := ra_sum_n hL (S m) (nI w) (b := m * 10) (by omega) 10 (Nat.le_refl 10)
      rw [ra_wd1 k0 k1, ra_bf, eB, eq, nI_add]
      exact nI_lt (by omega) (by omega)
    · obtain ⟨z, hz, hz1, hz2, ez, ez2⟩ := ra_spv (c := c) (s := s) hd hd2 hn hw hc hs
      rw [ra_wd2 k0 k1, ra_bf, eB, eS, Int32.lt_iff_toInt_lt, ez2, pk_mul]
      have h1 : (b + 1) * s ≤ c * s := Nat.mul_le_mul_right s (by omega)
      have h2 : (b + 1) * s = b * s + s := Nat.succ_mul b s
      have h3 : b * s ≤ 300 := Nat.mul_le_mul hb2 hs
      rw [nI_toInt (by omega)]
      omega
theorem ra_once {N : Int32} {K R B S T D L : Nat → Int32} (h : ra_ok N R B S T D L) {m c : Nat} (hm : m < 4) (hc : c ≤ 20) (hb : nI c ≤ B m) : ra_W N K R B S T D L m (nI c) (nI 300) = true := by
  obtain ⟨n, hn, rfl, hM, hL⟩ := h
  obtain ⟨r, b, s, t, ⟨hr1, hr, hb1, hb2, hs1, hs, ht⟩, eR, eB, eS, eT, hd, hd2⟩ := hM m hm
  rw [eB, nI_leI (by omega) (by omega)] at hb
  unfold ra_W
  by_cases k0 : K m = 0
  · rw [ra_wd0 k0, ra_bt, eR, eB, eT, ra_min_n (by omega) hr hb2 (by omega), ra_mn_b (by omega)]
    exact nI_nlt hb (by omega)
  · by_cases k1 : K m = 1
    · rw [ra_wd1 k0 k1, ra_bt, eB, eS, ra_sum_0 L hs (by omega) (by omega) (m * 10) 10 (Nat.le_refl 10)]
      show ¬ nI b < nI c + nI 0
      rw [nI_add]
      exact nI_nlt (by omega) (by omega)
    · obtain ⟨z, hz, hz1, hz2, ez, ez2⟩ := ra_spv (w := 300) (c := c) (s := s) hd hd2 hn (Nat.le_refl 300) hc hs
      rw [ra_wd2 k0 k1, ra_bt, eB, eS, Int32.lt_iff_toInt_lt, ez2, pk_mul]
      have h1 : c * s ≤ b * s := Nat.mul_le_mul_right s hb
      have h3 : b * s ≤ 300 := Nat.mul_le_mul hb2 hs
      rw [nI_toInt (by omega)]
      omega
/-! a grant -/
def ra_gT (K T : Nat → Int32) (m : Nat) (c : Int32) : Nat → Int32 := if K m = 0 then upd T m (T m - c) else T
def ra_gL (K L : Nat → Int32) (m : Nat) (c : Int32) : Nat → Int32 := if K m = 0 then L else if K m = 1 then upd L (m * 10) (L (m * 10) + c) else L
def ra_gD (N : Int32) (K S D : Nat → Int32) (m : Nat) (c : Int32) : Nat → Int32 := if K m = 0 then D else if K m = 1 then D else upd D m (ra_st (D m) N + c * S m)
theorem ra_gT_n {K T : Nat → Int32} {m j : Nat} {c : Int32} (h : j ≠ m) : ra_gT K T m c j = T j := by
  unfold ra_gT
  split
  · exact pk_un h
  · rfl
theorem ra_gD_n {N : Int32} {K S D : Nat → Int32} {m j : Nat} {c : Int32} (h : j ≠ m) : ra_gD N K S D m c j = D j := by
  unfold ra_gD
  split
  · rfl
  · split
    · rfl
    · exact pk_un h
theorem ra_gL_n {K L : Nat → Int32} {m j : Nat} {c : Int32} (h : j ≠ m * 10) : ra_gL K L m c j = L j := by
  unfold ra_gL
  split
  · rfl
  · split
    · exact pk_un h
    · rfl
theorem ra_gW {N : Int32} {K R B S T D L : Nat → Int32} {m j : Nat} (h : j ≠ m) (c : Int32) : ra_W N K R B S (ra_gT K T m c) (ra_gD N K S D m c) (ra_gL K L m c) j c 0 = ra_W N K R B S T D L j c 0 := by
  unfold ra_W
  rw [ra_gT_n h, ra_gD_n h, ra_sum_c (L := ra_gL K L m c) (M := L) (S j) 0 (j * 10) (fun i hi => ra_gL_n (by omega)) 10 (Nat.le_refl 10)]
theorem ra_gok {N : Int32} {K R B S T D L : Nat → Int32} (h : ra_ok N R B S T D L) {m c : Nat} (hm : m < 4) (hc1 : 1 ≤ c) (hc : c ≤ 20) (hw : ra_W N K R B S T D L m (nI c) 0 = true) : ra_ok N R B S (ra_gT K T m (nI c)) (ra_gD N K S D m (nI c)) (ra_gL K L m (nI c)) := by
  obtain ⟨n, hn, rfl, hM, hL⟩ := h
  have hM' := hM m hm
  obtain ⟨r, b, s, t, hb, eR, eB, eS, eT, hd, hd2⟩ := hM'
  obtain ⟨hr1, hr, hb1, hb2, hs1, hs, ht⟩ := hb
  unfold ra_W at hw
  refine ⟨n, hn, rfl, fun j hj => ?_, ?_⟩
  · by_cases g : j = m
    · subst g
      by_cases k0 : K j = 0
      · rw [ra_wd0 k0, ra_bt, eR, eB, eT] at hw
        have e := ra_min_n (t := t) (r := r) (b := b) (w := 0) (by omega) hr hb2 (by omega)
        have hw2 : ¬ ra_min (nI t) (nI r) (nI b) (nI 0) < nI c := hw
        have a1 := ra_mn_a (t + r * 0) b
        rw [e, nI_ltI (by omega) (by omega)] at hw2
        refine ⟨r, b, s, t - c, ⟨hr1, hr, hb1, hb2, hs1, hs, by omega⟩, eR, eB, eS, ?_, ?_⟩
        · rw [ra_gT, if_pos k0, pk_us, eT, pk_sub (by omega)]
        · rw [ra_gD, if_pos k0]
          exact ⟨hd, hd2⟩
      · by_cases k1 : K j = 1
        · refine ⟨r, b, s, t, ⟨hr1, hr, hb1, hb2, hs1, hs, ht⟩, eR, eB, eS, ?_, ?_⟩
          · rw [ra_gT, if_neg k0]
            exact eT
          · rw [ra_gD, if_neg k0, if_pos k1]
            exact ⟨hd, hd2⟩
        · rw [ra_wd2 k0 k1, ra_bt, eB, eS] at hw
          obtain ⟨z, hz, hz1, hz2, ez, ez2⟩ := ra_spv (w := 0) (c := c) (s := s) hd hd2 hn (by omega) hc hs
          have e0 : nI n + nI 0 = nI n := nI_add n 0
          have hw2 : ¬ nI b * nI s < ra_st (D j) (nI n + nI 0) + nI c * nI s - (nI n + nI 0) := hw
          have h3 : b * s ≤ 300 := Nat.mul_le_mul hb2 hs
          rw [Int32.lt_iff_toInt_lt, ez2, pk_mul, nI_toInt (by omega)] at hw2
          rw [e0] at ez
          refine ⟨r, b, s, t, ⟨hr1, hr, hb1, hb2, hs1, hs, ht⟩, eR, eB, eS, ?_, ?_⟩
          · rw [ra_gT, if_neg k0]
            exact eT
          · rw [ra_gD, if_neg k0, if_neg k1, pk_us, eS, ez]
            omega
    · rw [ra_gT_n g, ra_gD_n g]
      exact hM j hj
  · unfold ra_gL
    by_cases k0 : K m = 0
    · rw [if_pos k0]
      exact hL
    · rw [if_neg k0]
      by_cases k1 : K m = 1
      · rw [if_pos k1]
        obtain ⟨e, he, ee⟩ := hL (m * 10) (by omega)
        obtain ⟨q, hq, heq, eq⟩ := ra_sum_1 hL hs1 hs (b := m * 10) (by omega) he ee 9 (by omega)
        have eq2 : ra_sum L (nI s) 0 (m * 10) 10 = nI q := eq
        rw [ra_wd1 k0 k1, ra_bt, eB, eS, eq2, nI_add, nI_ltI (by omega) (by omega)] at hw
        rw [ee, nI_add]
        exact ra_Lg_u hL (m * 10) (e + c) (by omega)
      · rw [if_neg k1]
        exact hL
end
section
/-! the meters of a set; denials; grants one after another -/
def ra_in (s : Int32) (i : Nat) : Bool := decide ((s >>> (nI i &&& 31)) &&& 1 = 1)
def ra_dn (p : Nat → Bool) (DN : Nat → Int32) : Nat → (Nat → Int32)
  | 0 => DN
  | i + 1 => if p i = true then upd (ra_dn p DN i) i (ra_dn p DN i i + 1) else ra_dn p DN i
theorem ra_dn_t {p : Nat → Bool} {DN : Nat → Int32} {i : Nat} (h : p i = true) : ra_dn p DN (i + 1) = upd (ra_dn p DN i) i (ra_dn p DN i i + 1) := if_pos h
theorem ra_dn_f {p : Nat → Bool} {DN : Nat → Int32} {i : Nat} (h : ¬ p i = true) : ra_dn p DN (i + 1) = ra_dn p DN i := if_neg h
def ra_al (p : Nat → Bool) : Nat → Int32
  | 0 => 1
  | i + 1 => if p i = true then 0 else ra_al p i
theorem ra_al_t {p : Nat → Bool} {i : Nat} (h : p i = true) : ra_al p (i + 1) = 0 := if_pos h
theorem ra_al_f {p : Nat → Bool} {i : Nat} (h : ¬ p i = true) : ra_al p (i + 1) = ra_al p i := if_neg h
theorem ra_al_01 (p : Nat → Bool) : ∀ i, ra_al p i = 0 ∨ ra_al p i = 1 := by
  intro i
  induction i with
  | zero => exact Or.inr rfl
  | succ i ih =>
    by_cases h : p i = true
    · exact Or.inl (ra_al_t h)
    · rw [ra_al_f h]
      exact ih
theorem ra_al_no {p : Nat → Bool} : ∀ i, ¬ ra_al p i = 0 → ∀ j, j < i → ¬ p j = true := by
  intro i
  induction i with
  | zero => intro _ j hj; omega
  | succ i ih =>
    intro h j hj
    by_cases g : p i = true
    · exact absurd (ra_al_t g) h
    · rw [ra_al_f g] at h
      by_cases e : j = i
      · rw [e]
        exact g
      · exact ih h j (by omega)
def ra_gs (N : Int32) (K S : Nat → Int32) (q : Nat → Bool) (c : Int32) (T D G L : Nat → Int32) : Nat → (Nat → Int32) × (Nat → Int32) × (Nat → Int32) × (Nat → Int32)
  | 0 => (T, D, G, L)
  | i + 1 => if q i = true then (ra_gT K (ra_gs N K S q c T D G L i).1 i c, ra_gD N K S (ra_gs N K S q c T D G L i).2.1 i c, upd (ra_gs N K S q c T D G L i).2.2.1 i ((ra_gs N K S q c T D G L i).2.2.1 i + c), ra_gL K (ra_gs N K S q c T D G L i).2.2.2 i c) else ra_gs N K S q c T D G L i
theorem ra_gs_t {N : Int32} {K S : Nat → Int32} {q : Nat → Bool} {c : Int32} {T D G L : Nat → Int32} {i : Nat} (h : q i = true) : ra_gs N K S q c T D G L (i + 1) = (ra_gT K (ra_gs N K S q c T D G L i).1 i c, ra_gD N K S (ra_gs N K S q c T D G L i).2.1 i c, upd (ra_gs N K S q c T D G L i).2.2.1 i ((ra_gs N K S q c T D G L i).2.2.1 i + c), ra_gL K (ra_gs N K S q c T D G L i).2.2.2 i c) := if_pos h
theorem ra_gs_f {N : Int32} {K S : Nat → Int32} {q : Nat → Bool} {c : Int32} {T D G L : Nat → Int32} {i : Nat} (h : ¬ q i = true) : ra_gs N K S q c T D G L (i + 1) = ra_gs N K S q c T D G L i := if_neg h
theorem ra_gsok {N : Int32} {K R B S T D G L : Nat → Int32} (h : ra_ok N R B S T D L) {c : Nat} (hc1 : 1 ≤ c) (hc : c ≤ 20) {q : Nat → Bool} (hq : ∀ i, i < 4 → q i = true → ra_W N K R B S T D L i (nI c) 0 = true) : ∀ i, i ≤ 4 → ra_ok N R B S (ra_gs N K S q (nI c) T D G L i).1 (ra_gs N K S q (nI c) T D G L i).2.1 (ra_gs N K S q (nI c) T D G L i).2.2.2 ∧ ∀ j, i ≤ j → j < 4 → ra_W N K R B S (ra_gs N K S q (nI c) T D G L i).1 (ra_gs N K S q (nI c) T D G L i).2.1 (ra_gs N K S q (nI c) T D G L i).2.2.2 j (nI c) 0 = ra_W N K R B S T D L j (nI c) 0 := by
  intro i
  induction i with
  | zero => intro _; exact ⟨h, fun j _ _ => rfl⟩
  | succ i ih =>
    intro hi
    obtain ⟨a, b⟩ := ih (by omega)
    by_cases g : q i = true
    · rw [ra_gs_t g]
      dsimp only
      refine ⟨ra_gok a (by omega) hc1 hc ?_, fun j hj hj4 => ?_⟩
      · rw [b i (Nat.le_refl i) (by omega)]
        exact hq i (by omega) g
      · rw [ra_gW (by omega)]
        exact b j (by omega) hj4
    · rw [ra_gs_f g]
      exact ⟨a, fun j hj hj4 => b j (by omega) hj4⟩
/-! a set of one meter -/
theorem ra_one_dn {p : Nat → Bool} {DN : Nat → Int32} {m : Nat} (hp : ∀ i, i < 4 → (p i = true ↔ i = m)) : ∀ k, k ≤ 4 → (k ≤ m → ra_dn p DN k = DN ∧ ra_al p k = 1) ∧ (m < k → ra_dn p DN k = upd DN m (DN m + 1) ∧ ra_al p k = 0) := by
  intro k
  induction k with
  | zero => intro _; exact ⟨fun _ => ⟨rfl, rfl⟩, fun h => by omega⟩
  | succ k ih =>
    intro hk
    obtain ⟨a, b⟩ := ih (by omega)
    have hk' := hp k (by omega)
    refine ⟨fun h => ?_, fun h => ?_⟩
    · have g : ¬ p k = true := fun z => by have := hk'.mp z; omega
      rw [ra_dn_f g, ra_al_f g]
      exact a (by omega)
    · by_cases e : k = m
      · have g : p k = true := hk'.mpr e
        rw [ra_dn_t g, ra_al_t g, (a (by omega)).1]
        subst e
        exact ⟨rfl, rfl⟩
      · have g : ¬ p k = true := fun z => e (hk'.mp z)
        rw [ra_dn_f g, ra_al_f g]
        exact b (by omega)
theorem ra_none_dn {p : Nat → Bool} {DN : Nat → Int32} (hp : ∀ i, i < 4 → ¬ p i = true) : ∀ k, k ≤ 4 → ra_dn p DN k = DN ∧ ra_al p k = 1 := by
  intro k
  induction k with
  | zero => intro _; exact ⟨rfl, rfl⟩
  | succ k ih =>
    intro hk
    rw [ra_dn_f (hp k (by omega)), ra_al_f (hp k (by omega))]
    exact ih (by omega)
theorem ra_one_gs {N : Int32} {K S : Nat → Int32} {q : Nat → Bool} {c : Int32} {T D G L : Nat → Int32} {m : Nat} (hq : ∀ i, i < 4 → (q i = true ↔ i = m)) : ∀ k, k ≤ 4 → (k ≤ m → ra_gs N K S q c T D G L k = (T, D, G, L)) ∧ (m < k → ra_gs N K S q c T D G L k = (ra_gT K T m c, ra_gD N K S D m c, upd G m (G m + c), ra_gL K L m c)) := by
  intro k
  induction k with
  | zero => intro _; exact ⟨fun _ => rfl, fun h => by omega⟩
  | succ k ih =>
    intro hk
    obtain ⟨a, b⟩ := ih (by omega)
    have hk' := hq k (by omega)
    refine ⟨fun h => ?_, fun h => ?_⟩
    · have g : ¬ q k = true := fun z => by have := hk'.mp z; omega
      rw [ra_gs_f g]
      exact a (by omega)
    · by_cases e : k = m
      · have g : q k = true := hk'.mpr e
        rw [ra_gs_t g, a (by omega)]
        subst e
        rfl
      · have g : ¬ q k = true := fun z => e (hk'.mp z)
        rw [ra_gs_f g]
        exact b (by omega)
theorem ra_in_tab : ∀ m : Fin 4, ∀ i : Fin 4, (ra_in ((1 : Int32) <<< (nI m.val &&& 31)) i.val = true ↔ i.val = m.val) := by decide +kernel
theorem ra_in_one {m i : Nat} (hm : m < 4) (hi : i < 4) : ra_in ((1 : Int32) <<< (nI m &&& 31)) i = true ↔ i = m := ra_in_tab ⟨m, hm⟩ ⟨i, hi⟩
/-! a meter made anew; the constructor's four -/
def ra_z (L : Nat → Int32) (b : Nat) : Nat → (Nat → Int32)
  | 0 => L
  | i + 1 => upd (ra_z L b i) (b + i) 0
theorem ra_z_g {L : Nat → Int32} (h : ra_Lg L) (b : Nat) : ∀ i, ra_Lg (ra_z L b i) := by
  intro i
  induction i with
  | zero => exact h
  | succ i ih => exact ra_Lg_u ih (b + i) 0 (by omega)
def ra_cn (f : Nat → Int32) (x : Int32) : Nat → (Nat → Int32)
  | 0 => f
  | i + 1 => upd (ra_cn f x i) i x
theorem ra_cn_v (f : Nat → Int32) (x : Int32) : ∀ i j, j < i → ra_cn f x i j = x := by
  intro i
  induction i with
  | zero => intro j hj; omega
  | succ i ih =>
    intro j hj
    show upd (ra_cn f x i) i x j = x
    by_cases g : j = i
    · rw [g, pk_us]
    · rw [pk_un g]
      exact ih j (by omega)
def ra_zl (L : Nat → Int32) : Nat → (Nat → Int32)
  | 0 => L
  | i + 1 => ra_z (ra_zl L i) (i * 10) 10
theorem ra_zl_g {L : Nat → Int32} (h : ra_Lg L) : ∀ i, ra_Lg (ra_zl L i) := by
  intro i
  induction i with
  | zero => exact h
  | succ i ih => exact ra_z_g ih (i * 10) 10
theorem ra_Lg0 : ra_Lg (fun _ => 0) := fun _ _ => ⟨0, by omega, rfl⟩
theorem ra_due0 : (-1000000 : Int32).toInt = -1000000 := by decide
theorem ra_ok0 (f g h i j : Nat → Int32) : ra_ok 0 (ra_cn f 1 4) (ra_cn g 10 4) (ra_cn h 1 4) (ra_cn i 10 4) (ra_cn j (-1000000) 4) (ra_zl (fun _ => 0) 4) := by
  refine ⟨0, by omega, rfl, fun m hm => ⟨1, 10, 1, 10, by omega, ?_⟩, ra_zl_g ra_Lg0 4⟩
  rw [ra_cn_v f 1 4 m hm, ra_cn_v g 10 4 m hm, ra_cn_v h 1 4 m hm, ra_cn_v i 10 4 m hm, ra_cn_v j (-1000000) 4 m hm, ra_due0]
  exact ⟨rfl, rfl, rfl, rfl, by omega, by omega⟩
theorem ra_set_ok {N : Int32} {R B S T D L : Nat → Int32} (h : ra_ok N R B S T D L) (m : Nat) {r b s : Nat} (hr1 : 1 ≤ r) (hr : r ≤ 5) (hb1 : 1 ≤ b) (hb : b ≤ 30) (hs1 : 1 ≤ s) (hs : s ≤ 10) : ra_ok N (upd R m (nI r)) (upd B m (nI b)) (upd S m (nI s)) (upd T m (nI b)) (upd D m (-1000000)) (ra_z L (m * 10) 10) := by
  obtain ⟨n, hn, rfl, hM, hL⟩ := h
  refine ⟨n, hn, rfl, fun j hj => ?_, ra_z_g hL (m * 10) 10⟩
  by_cases g : j = m
  · rw [g, pk_us, pk_us, pk_us, pk_us, pk_us]
    refine ⟨r, b, s, b, by omega, rfl, rfl, rfl, rfl, ?_⟩
    rw [ra_due0]
    omega
  · rw [pk_un g, pk_un g, pk_un g, pk_un g, pk_un g]
    exact hM j hj
/-! time passes -/
def ra_ag (L : Nat → Int32) (b u : Nat) : Nat → (Nat → Int32)
  | 0 => L
  | d + 1 => upd (ra_ag L b u d) (b + (9 - d)) (if u ≤ 9 - d then ra_ag L b u d (b + (9 - d) - u) else 0)
theorem ra_ag_g {L : Nat → Int32} (h : ra_Lg L) {b : Nat} (hb : b + 10 ≤ 40) (u : Nat) : ∀ d, ra_Lg (ra_ag L b u d) := by
  intro d
  induction d with
  | zero => exact h
  | succ d ih =>
    show ra_Lg (upd (ra_ag L b u d) (b + (9 - d)) (if u ≤ 9 - d then ra_ag L b u d (b + (9 - d) - u) else 0))
    by_cases g : u ≤ 9 - d
    · rw [if_pos g]
      exact ra_Lg_c ih _ _ (by omega)
    · rw [if_neg g]
      exact ra_Lg_u ih _ 0 (by omega)
def ra_pL (L : Nat → Int32) (u : Nat) : Nat → (Nat → Int32)
  | 0 => L
  | i + 1 => ra_ag (ra_pL L u i) (i * 10) u 10
theorem ra_pL_g {L : Nat → Int32} (h : ra_Lg L) (u : Nat) : ∀ i, i ≤ 4 → ra_Lg (ra_pL L u i) := by
  intro i
  induction i with
  | zero => intro _; exact h
  | succ i ih => intro hi; exact ra_ag_g (ih (by omega)) (by omega) u 10
def ra_pT (R B T : Nat → Int32) (w : Int32) : Nat → (Nat → Int32)
  | 0 => T
  | i + 1 => upd (ra_pT R B T w i) i (ra_min (ra_pT R B T w i i) (R i) (B i) w)
theorem ra_pT_g {R B S T D : Nat → Int32} {n u : Nat} (h : ra_Ms R B S T D n) (hu : u ≤ 1000) : ∀ i, i ≤ 4 → ra_Ms R B S (ra_pT R B T (nI u) i) D (n + u) := by
  intro i
  induction i with
  | zero =>
    intro _ m hm
    obtain ⟨r, b, s, t, hb, eR, eB, eS, eT, hd, hd2⟩ := h m hm
    exact ⟨r, b, s, t, hb, eR, eB, eS, eT, hd, by omega⟩
  | succ i ih =>
    intro hi m hm
    have hM := ih (by omega) m hm
    show ra_M (R m) (B m) (S m) (upd (ra_pT R B T (nI u) i) i (ra_min (ra_pT R B T (nI u) i i) (R i) (B i) (nI u)) m) (D m) (n + u)
    by_cases g : m = i
    · subst g
      obtain ⟨r, b, s, t, hb, eR, eB, eS, eT, hd, hd2⟩ := hM
      rw [pk_us, eT]
      refine ⟨r, b, s, ra_mn (t + r * u) b, ?_, eR, eB, eS, ?_, hd, hd2⟩
      · have := ra_mn_le (t + r * u) b
        omega
      · rw [eR, eB]
        exact ra_min_n (by omega) (by omega) (by omega) hu
    · rw [pk_un g]
      exact hM
/-! the greatest cost that would be granted -/
def ra_rm (p : Nat → Bool) : Nat → Nat
  | 0 => 0
  | i + 1 => if p (i + 1) = true then i + 1 else ra_rm p i
theorem ra_rm_t {p : Nat → Bool} {i : Nat} (h : p (i + 1) = true) : ra_rm p (i + 1) = i + 1 := if_pos h
theorem ra_rm_f {p : Nat → Bool} {i : Nat} (h : ¬ p (i + 1) = true) : ra_rm p (i + 1) = ra_rm p i := if_neg h
end
section
section
variable {N : Int32} {K R B S T D G A L : Nat → Int32}
theorem rx_cl {m : Nat} (hm : m < 4) : (nI m).toNatClampNeg = m := nI_clamp (by omega)
theorem rx_in {m : Nat} (hm : m < 4) : vp_in (nI m) 4 := vp_in_nI hm (by omega)
theorem rx_ix (m i : Nat) : nI m * 10 + nI i = nI (m * 10 + i) := by rw [ra_m10, nI_add]
theorem rx_xin {m i : Nat} (hm : m < 4) (hi : i < 10) : vp_in (nI m * 10 + nI i) 40 := by
  rw [rx_ix]
  exact vp_in_nI (by omega) (by omega)
theorem rx_xcl {m i : Nat} (hm : m < 4) (hi : i < 10) : (nI m * 10 + nI i).toNatClampNeg = m * 10 + i := by
  rw [rx_ix]
  exact nI_clamp (by omega)
theorem rx_yin {m : Nat} (hm : m < 4) : vp_in (nI m * 10) 40 := by
  rw [ra_m10]
  exact vp_in_nI (by omega) (by omega)
theorem rx_ycl {m : Nat} (hm : m < 4) : (nI m * 10).toNatClampNeg = m * 10 := by
  rw [ra_m10]
  exact nI_clamp (by omega)
theorem ra_10 : ¬ (1 : Int32) = 0 := by decide
theorem rx_me1 {post : Int32 → Prop} {m : Nat} (hm : m < 4) (h : post 1) : wpX_isMeter post (nI m) := br_f (nI_pos (by omega)) (br_f (nI_ge (b := 4) hm (by decide)) h)
theorem rx_me0 {post : Int32 → Prop} {x : Int32} (hx : x < 0 ∨ nI 4 ≤ x) (h : post 0) : wpX_isMeter post x := by
  by_cases g : x < 0
  · exact br_t g h
  · exact br_f g (br_t (hx.resolve_left g) h)
theorem rx_co1 {post : Int32 → Prop} {c : Nat} (h1 : 1 ≤ c) (h2 : c ≤ 20) (h : post 1) : wpX_isCost post (nI c) := br_f (nI_nlt (a := c) (b := 1) h1 (by omega)) (br_f (nI_nlt (a := 20) (b := c) h2 (by decide)) h)
theorem rx_co0 {post : Int32 → Prop} {x : Int32} (hx : x < 1 ∨ 20 < x) (h : post 0) : wpX_isCost post x := by
  by_cases g : x < 1
  · exact br_t g h
  · exact br_f g (br_t (hx.resolve_left g) h)
theorem ra_cost (x : Int32) : (x < 1 ∨ 20 < x) ∨ ∃ c : Nat, 1 ≤ c ∧ c ≤ 20 ∧ x = nI c := by
  by_cases g : x < 1
  · exact Or.inl (Or.inl g)
  · by_cases g2 : 20 < x
    · exact Or.inl (Or.inr g2)
    · have h0 : ¬ x < 0 := fun z => g (Int32.lt_trans z (by decide))
      obtain ⟨j, hj, rfl⟩ := nI_of h0
      have g' : ¬ nI j < nI 1 := g
      have g2' : ¬ nI 20 < nI j := g2
      rw [nI_ltI hj (by omega)] at g'
      rw [nI_ltI (by omega) hj] at g2'
      exact Or.inr ⟨j, by omega, by omega, rfl⟩
theorem rx_tok {post : Int32 → Prop} {m : Nat} (hm : m < 4) {w : Int32} (h : post (ra_min (T m) (R m) (B m) w)) : wpX_tokensAfter post (N, K, R, B, S, T, D, G, A, L) (nI m) w := by
  have v := rx_in hm
  unfold wpX_tokensAfter
  dsimp only
  rw [rx_cl hm]
  refine ⟨v, v, nm_e ⟨v, ?_⟩⟩
  unfold ra_min at h
  by_cases g : B m ≤ T m + R m * w
  · rw [if_pos g] at h
    exact br_t g ⟨v, h⟩
  · rw [if_neg g] at h
    exact br_f g h
theorem rx_log_lp {post : Int32 → Prop} {m : Nat} (hm : m < 4) {w : Int32} (h : post (ra_sum L (S m) w (m * 10) 10)) : ∀ d i, i + d = 10 → wX_loggedAfter_5 post (nI m) w N K R B S T D G A L (d + 1) (ra_sum L (S m) w (m * 10) i) (nI i) := by
  intro d
  induction d with
  | zero =>
    intro i hi
    obtain rfl : i = 10 := by omega
    exact br_t (nI_le (a := 10) (b := 10) (Nat.le_refl 10) (by decide)) h
  | succ d ih =>
    intro i hi
    have ih := ih (i + 1) (by omega)
    rw [wX_loggedAfter_5]
    dsimp only
    rw [rx_cl hm, rx_xcl hm (by omega)]
    refine br_f (nI_ge (b := 10) (by omega) (by decide)) ⟨rx_in hm, ?_⟩
    by_cases g : S m ≤ nI i + w
    · have e : ra_sum L (S m) w (m * 10) (i + 1) = ra_sum L (S m) w (m * 10) i := if_pos g
      rw [e] at ih
      exact br_t g (nm_r (nI_1 i) ih)
    · have e : ra_sum L (S m) w (m * 10) (i + 1) = ra_sum L (S m) w (m * 10) i + L (m * 10 + i) := if_neg g
      exact br_f g ⟨rx_xin hm (by omega), nm_r e.symm (nm_r (nI_1 i) ih)⟩
theorem rx_log {post : Int32 → Prop} {m : Nat} (hm : m < 4) {w : Int32} (h : post (ra_sum L (S m) w (m * 10) 10)) : wpX_loggedAfter post (N, K, R, B, S, T, D, G, A, L) (nI m) w := ⟨11, rx_log_lp hm h 10 0 rfl⟩
theorem rx_sta {post : Int32 → Prop} {m : Nat} (hm : m < 4) {y : Int32} (h : post (ra_st (D m) y)) : wpX_startAt post (N, K, R, B, S, T, D, G, A, L) (nI m) y := by
  have v := rx_in hm
  unfold wpX_startAt
  dsimp only
  rw [rx_cl hm]
  unfold ra_st at h
  by_cases g : D m ≤ y
  · rw [if_pos g] at h
    exact ⟨v, br_t g h⟩
  · rw [if_neg g] at h
    exact ⟨v, br_f g ⟨v, h⟩⟩
theorem rx_wd {post : Int32 → Prop} {m : Nat} (hm : m < 4) {c w : Int32} (h1 : ra_W N K R B S T D L m c w = true → post 1) (h0 : ra_W N K R B S T D L m c w = false → post 0) : wpX_wouldGrant post (N, K, R, B, S, T, D, G, A, L) (nI m) c w := by
  have v := rx_in hm
  unfold ra_W at h1 h0
  unfold wpX_wouldGrant
  dsimp only
  rw [rx_cl hm]
  by_cases k0 : K m = 0
  · rw [ra_wd0 k0, ra_bt] at h1
    rw [ra_wd0 k0, ra_bf] at h0
    exact ⟨v, br_t k0 (rx_tok hm (br_c h0 h1))⟩
  · by_cases k1 : K m = 1
    · rw [ra_wd1 k0 k1, ra_bt] at h1
      rw [ra_wd1 k0 k1, ra_bf] at h0
      exact ⟨v, br_f k0 ⟨v, br_t k1 (rx_log hm ⟨v, br_c h0 h1⟩)⟩⟩
    · rw [ra_wd2 k0 k1, ra_bt] at h1
      rw [ra_wd2 k0 k1, ra_bf] at h0
      exact ⟨v, br_f k0 ⟨v, br_f k1 (nm_e ⟨v, nm_e (rx_sta hm ⟨v, br_c h0 h1⟩)⟩)⟩⟩
theorem rx_gr {post : SX → Prop} {m : Nat} (hm : m < 4) {c : Int32} (h : post (N, K, R, B, S, ra_gT K T m c, ra_gD N K S D m c, upd G m (G m + c), A, ra_gL K L m c)) : wpX_grant post (N, K, R, B, S, T, D, G, A, L) (nI m) c := by
  have v := rx_in hm
  have v2 := rx_yin hm
  unfold wpX_grant
  dsimp only
  rw [rx_cl hm, rx_ycl hm]
  refine ⟨v, v, nm_e ⟨v, ?_⟩⟩
  unfold ra_gT ra_gD ra_gL at h
  by_cases k0 : K m = 0
  · rw [if_pos k0, if_pos k0, if_pos k0] at h
    exact br_t k0 ⟨v, v, nm_e h⟩
  · rw [if_neg k0, if_neg k0, if_neg k0] at h
    by_cases k1 : K m = 1
    · rw [if_pos k1, if_pos k1] at h
      exact br_f k0 ⟨v, br_t k1 ⟨v2, v2, nm_e h⟩⟩
    · rw [if_neg k1, if_neg k1] at h
      exact br_f k0 ⟨v, br_f k1 (rx_sta hm ⟨v, v, nm_e h⟩)⟩
theorem rx_mk_lp {post : SX → Prop} {m : Nat} (hm : m < 4) (h : post (N, K, R, B, S, T, D, G, A, ra_z L (m * 10) 10)) : ∀ d i, i + d = 10 → wX_makeAnew_63 post (nI m) N (d + 1) (nI i) K R B S T D G A (ra_z L (m * 10) i) := by
  intro d
  induction d with
  | zero =>
    intro i hi
    obtain rfl : i = 10 := by omega
    exact br_t (nI_le (a := 10) (b := 10) (Nat.le_refl 10) (by decide)) h
  | succ d ih =>
    intro i hi
    have ih := ih (i + 1) (by omega)
    rw [wX_makeAnew_63]
    dsimp only
    rw [rx_xcl hm (by omega)]
    exact br_f (nI_ge (b := 10) (by omega) (by decide)) ⟨rx_xin hm (by omega), nm_r (e' := ra_z L (m * 10) (i + 1)) rfl (nm_r (nI_1 i) ih)⟩
theorem rx_mk {post : SX → Prop} {m : Nat} (hm : m < 4) {k r b s : Int32} (h : post (N, upd K m k, upd R m r, upd B m b, upd S m s, upd T m b, upd D m (-1000000), upd G m 0, upd A m 0, ra_z L (m * 10) 10)) : wpX_makeAnew post (N, K, R, B, S, T, D, G, A, L) (nI m) k r b s := by
  have v := rx_in hm
  unfold wpX_makeAnew
  dsimp only
  rw [rx_cl hm]
  exact ⟨v, nm_e ⟨v, nm_e ⟨v, nm_e ⟨v, nm_e ⟨v, nm_e ⟨v, nm_e ⟨v, nm_e ⟨v, nm_e ⟨11, rx_mk_lp hm h 10 0 rfl⟩⟩⟩⟩⟩⟩⟩⟩⟩
theorem rx_init {post : SX → Prop} (h : post (0, ra_cn (fun _ => 0) 0 4, ra_cn (fun _ => 0) 1 4, ra_cn (fun _ => 0) 10 4, ra_cn (fun _ => 0) 1 4, ra_cn (fun _ => 0) 10 4, ra_cn (fun _ => 0) (-1000000) 4, ra_cn (fun _ => 0) 0 4, ra_cn (fun _ => 0) 0 4, ra_zl (fun _ => 0) 4)) : wpX_init post := by
  have lp : ∀ d i, i + d = 4 → wX_init_75 post (d + 1) (nI i) 0 (ra_cn (fun _ => 0) 0 i) (ra_cn (fun _ => 0) 1 i) (ra_cn (fun _ => 0) 10 i) (ra_cn (fun _ => 0) 1 i) (ra_cn (fun _ => 0) 10 i) (ra_cn (fun _ => 0) (-1000000) i) (ra_cn (fun _ => 0) 0 i) (ra_cn (fun _ => 0) 0 i) (ra_zl (fun _ => 0) i) := by
    intro d
    induction d with
    | zero =>
      intro i hi
      obtain rfl : i = 4 := by omega
      exact br_t (nI_le (a := 4) (b := 4) (Nat.le_refl 4) (by decide)) h
    | succ d ih =>
      intro i hi
      have ih := ih (i + 1) (by omega)
      rw [wX_init_75]
      dsimp only
      exact br_f (nI_ge (b := 4) (by omega) (by decide)) (rx_mk (by omega) (nm_r (nI_1 i) ih))
  exact ⟨5, lp 4 0 rfl⟩
theorem rx_is {post : Int32 → Prop} {s : Int32} {i : Nat} (h1 : ra_in s i = true → post 1) (h0 : ¬ ra_in s i = true → post 0) : wpX_isInSet post s (nI i) := br_c (fun g => h1 (decide_eq_true g)) (fun g => h0 (fun z => g (of_decide_eq_true z)))
theorem rx_aa2 {post : Int32 → SX → Prop} {s c : Int32} (h : post 1 (N, K, R, B, S, (ra_gs N K S (ra_in s) c T D G L 4).1, (ra_gs N K S (ra_in s) c T D G L 4).2.1, (ra_gs N K S (ra_in s) c T D G L 4).2.2.1, A, (ra_gs N K S (ra_in s) c T D G L 4).2.2.2)) : ∀ d i, i + d = 4 → wX_askAll_69 post s c (d + 1) (nI i) N K R B S (ra_gs N K S (ra_in s) c T D G L i).1 (ra_gs N K S (ra_in s) c T D G L i).2.1 (ra_gs N K S (ra_in s) c T D G L i).2.2.1 A (ra_gs N K S (ra_in s) c T D G L i).2.2.2 := by
  intro d
  induction d with
  | zero =>
    intro i hi
    obtain rfl : i = 4 := by omega
    exact br_t (nI_le (a := 4) (b := 4) (Nat.le_refl 4) (by decide)) h
  | succ d ih =>
    intro i hi
    have ih := ih (i + 1) (by omega)
    rw [wX_askAll_69]
    dsimp only
    refine br_f (nI_ge (b := 4) (by omega) (by decide)) (rx_is (fun g => ?_) (fun g => ?_))
    · rw [ra_gs_t g] at ih
      exact br_f ra_10 (rx_gr (by omega) (nm_r (nI_1 i) ih))
    · rw [ra_gs_f g] at ih
      exact br_t rfl (nm_r (nI_1 i) ih)
def ra_p (N : Int32) (K R B S T D L : Nat → Int32) (s c : Int32) (i : Nat) : Bool := ra_in s i && !ra_W N K R B S T D L i c 0
theorem ra_p_t {s c : Int32} {i : Nat} (g : ra_in s i = true) (w : ra_W N K R B S T D L i c 0 = false) : ra_p N K R B S T D L s c i = true := by
  unfold ra_p
  rw [g, w]
  rfl
theorem ra_p_f {s c : Int32} {i : Nat} (w : ra_W N K R B S T D L i c 0 = true) : ¬ ra_p N K R B S T D L s c i = true := by
  unfold ra_p
  rw [w]
  cases ra_in s i <;> decide
theorem ra_p_g {s c : Int32} {i : Nat} (g : ¬ ra_in s i = true) : ¬ ra_p N K R B S T D L s c i = true := by
  unfold ra_p
  intro z
  rw [Bool.and_eq_true] at z
  exact g z.1
theorem ra_p_w {s c : Int32} {i : Nat} (g : ra_in s i = true) (h : ¬ ra_p N K R B S T D L s c i = true) : ra_W N K R B S T D L i c 0 = true := by
  by_cases w : ra_W N K R B S T D L i c 0 = true
  · exact w
  · exact absurd (ra_p_t g (Bool.eq_false_iff.mpr w)) h
theorem rx_aa1 {post : Int32 → SX → Prop} {s c : Int32} (h0 : ra_al (ra_p N K R B S T D L s c) 4 = 0 → post 0 (N, K, R, B, S, T, D, G, ra_dn (ra_p N K R B S T D L s c) A 4, L)) (h1 : ¬ ra_al (ra_p N K R B S T D L s c) 4 = 0 → post 1 (N, K, R, B, S, (ra_gs N K S (ra_in s) c T D G L 4).1, (ra_gs N K S (ra_in s) c T D G L 4).2.1, (ra_gs N K S (ra_in s) c T D G L 4).2.2.1, ra_dn (ra_p N K R B S T D L s c) A 4, (ra_gs N K S (ra_in s) c T D G L 4).2.2.2)) : ∀ d i, i + d = 4 → wX_askAll_15 post s c N (d + 1) (ra_al (ra_p N K R B S T D L s c) i) (nI i) K R B S T D G (ra_dn (ra_p N K R B S T D L s c) A i) L := by
  intro d
  induction d with
  | zero =>
    intro i hi
    obtain rfl : i = 4 := by omega
    exact br_t (nI_le (a := 4) (b := 4) (Nat.le_refl 4) (by decide)) (br_c h0 (fun g => ⟨5, rx_aa2 (T := T) (D := D) (G := G) (L := L) (h1 g) 4 0 rfl⟩))
  | succ d ih =>
    intro i hi
    have ih := ih (i + 1) (by omega)
    have i4 : i < 4 := by omega
    rw [wX_askAll_15]
    dsimp only
    rw [rx_cl i4]
    refine br_f (nI_ge (b := 4) i4 (by decide)) (rx_is (fun g => ?_) (fun g => ?_))
    · refine br_f ra_10 (rx_wd i4 (fun w => ?_) (fun w => ?_))
      · rw [ra_dn_f (ra_p_f w), ra_al_f (ra_p_f w)] at ih
        exact br_f ra_10 (nm_r (nI_1 i) ih)
      · rw [ra_dn_t (ra_p_t g w), ra_al_t (ra_p_t g w)] at ih
        exact br_t rfl ⟨rx_in i4, rx_in i4, nm_e (nm_r (nI_1 i) ih)⟩
    · rw [ra_dn_f (ra_p_g g), ra_al_f (ra_p_g g)] at ih
      exact br_t rfl (nm_r (nI_1 i) ih)
theorem rx_aa {post : Int32 → SX → Prop} {s : Int32} {c : Nat} (hc1 : 1 ≤ c) (hc : c ≤ 20) (h0 : ra_al (ra_p N K R B S T D L s (nI c)) 4 = 0 → post 0 (N, K, R, B, S, T, D, G, ra_dn (ra_p N K R B S T D L s (nI c)) A 4, L)) (h1 : ¬ ra_al (ra_p N K R B S T D L s (nI c)) 4 = 0 → post 1 (N, K, R, B, S, (ra_gs N K S (ra_in s) (nI c) T D G L 4).1, (ra_gs N K S (ra_in s) (nI c) T D G L 4).2.1, (ra_gs N K S (ra_in s) (nI c) T D G L 4).2.2.1, ra_dn (ra_p N K R B S T D L s (nI c)) A 4, (ra_gs N K S (ra_in s) (nI c) T D G L 4).2.2.2)) : wpX_askAll post (N, K, R, B, S, T, D, G, A, L) s (nI c) := by
  unfold wpX_askAll
  dsimp only
  exact rx_co1 hc1 hc (br_f ra_10 ⟨5, rx_aa1 h0 h1 4 0 rfl⟩)
/-! the log grows older -/
def ra_pv : Nat → Int32
  | 0 => -1
  | k + 1 => nI k
theorem ra_pv_m1 (k : Nat) : nI k + (-1) = ra_pv k := by
  cases k with
  | zero => decide
  | succ k => exact pk_m1 k
theorem ra_ag_t {b u d k : Nat} (hk : 9 - d = k) (g : u ≤ k) : ra_ag L b u (d + 1) = upd (ra_ag L b u d) (b + k) (ra_ag L b u d (b + k - u)) := by
  show upd (ra_ag L b u d) (b + (9 - d)) (if u ≤ 9 - d then ra_ag L b u d (b + (9 - d) - u) else 0) = _
  rw [hk, if_pos g]
theorem ra_ag_f {b u d k : Nat} (hk : 9 - d = k) (g : ¬ u ≤ k) : ra_ag L b u (d + 1) = upd (ra_ag L b u d) (b + k) 0 := by
  show upd (ra_ag L b u d) (b + (9 - d)) (if u ≤ 9 - d then ra_ag L b u d (b + (9 - d) - u) else 0) = _
  rw [hk, if_neg g]
theorem rx_ag_lp {post : SX → Prop} {b u : Nat} (hb : b + 10 ≤ 40) (hu : u ≤ 1000) (h : post (N, K, R, B, S, T, D, G, A, ra_ag L b u 10)) : ∀ k d, d + k = 10 → wX_ageLog_9 post (nI u) (nI b) N (k + 1) (ra_pv k) K R B S T D G A (ra_ag L b u d) := by
  intro k
  induction k with
  | zero =>
    intro d hd
    obtain rfl : d = 10 := by omega
    exact br_t (show (-1 : Int32) < 0 by decide) h
  | succ k ih =>
    intro d hd
    have ih := ih (d + 1) (by omega)
    have e9 : 9 - d = k := by omega
    rw [wX_ageLog_9]
    dsimp only
    show (nI k < 0 → _) ∧ (¬ nI k < 0 → _)
    refine br_f (nI_pos (by omega)) ?_
    by_cases g : u ≤ k
    · rw [ra_ag_t e9 g] at ih
      have e1 : nI b + nI k = nI (b + k) := nI_add b k
      have e2 : nI b + nI k - nI u = nI (b + k - u) := by rw [nI_add, pk_sub (by omega)]
      refine br_f (nI_nlt g (by omega)) ⟨?_, ?_, nm_r ?_ (nm_r (ra_pv_m1 k) ih)⟩
      · show vp_in (nI b + nI k - nI u) 40
        rw [e2]
        exact vp_in_nI (by omega) (by omega)
      · show vp_in (nI b + nI k) 40
        rw [e1]
        exact vp_in_nI (by omega) (by omega)
      · show upd _ (nI b + nI k).toNatClampNeg (ra_ag L b u d (nI b + nI k - nI u).toNatClampNeg) = _
        rw [e2, e1, nI_clamp (by omega), nI_clamp (by omega)]
    · rw [ra_ag_f e9 g] at ih
      have e1 : nI b + nI k = nI (b + k) := nI_add b k
      refine br_t (nI_lt (by omega) (by omega)) ⟨?_, nm_r ?_ (nm_r (ra_pv_m1 k) ih)⟩
      · show vp_in (nI b + nI k) 40
        rw [e1]
        exact vp_in_nI (by omega) (by omega)
      · show upd _ (nI b + nI k).toNatClampNeg 0 = _
        rw [e1, nI_clamp (by omega)]
theorem rx_ag {post : SX → Prop} {m u : Nat} (hm : m < 4) (hu : u ≤ 1000) (h : post (N, K, R, B, S, T, D, G, A, ra_ag L (m * 10) u 10)) : wpX_ageLog post (N, K, R, B, S, T, D, G, A, L) (nI m) (nI u) := by
  unfold wpX_ageLog
  dsimp only
  exact nm_r (ra_m10 m) ⟨11, rx_ag_lp (by omega) hu h 10 0 rfl⟩
theorem rx_ps_lp {post : Int32 → SX → Prop} {u : Nat} (hu : u ≤ 1000) (h : post N (N, K, R, B, S, ra_pT R B T (nI u) 4, D, G, A, ra_pL L u 4)) : ∀ d i, i + d = 4 → wX_pass_40 post (nI u) (d + 1) (nI i) N K R B S (ra_pT R B T (nI u) i) D G A (ra_pL L u i) := by
  intro d
  induction d with
  | zero =>
    intro i hi
    obtain rfl : i = 4 := by omega
    exact br_t (nI_le (a := 4) (b := 4) (Nat.le_refl 4) (by decide)) h
  | succ d ih =>
    intro i hi
    have ih := ih (i + 1) (by omega)
    have i4 : i < 4 := by omega
    rw [wX_pass_40]
    dsimp only
    rw [rx_cl i4]
    exact br_f (nI_ge (b := 4) i4 (by decide)) (rx_tok i4 ⟨rx_in i4, nm_e (rx_ag i4 hu (nm_r (nI_1 i) ih))⟩)
end
end
section
section
variable {N : Int32} {K R B S T D G A L : Nat → Int32}
theorem ry_me1 {post : Int32 → Prop} {m : Nat} (hm : m < 4) (h : post 0) : wpY_bad post (N, K, R, B, S, T, L, D, G, A) (nI m) := br_f (nI_pos (by omega)) (br_t (nI_le (b := 3) (by omega) (by decide)) h)
theorem ry_me0 {post : Int32 → Prop} {x : Int32} (hx : x < 0 ∨ nI 4 ≤ x) (h : post 1) : wpY_bad post (N, K, R, B, S, T, L, D, G, A) x := by
  unfold wpY_bad
  dsimp only
  by_cases g : x < 0
  · exact br_t g h
  · refine br_f g (br_f (fun z => ?_) h)
    exact absurd (Int32.le_trans (hx.resolve_left g) z) (by decide)
theorem ry_co1 {post : Int32 → Prop} {c : Nat} (h1 : 1 ≤ c) (h2 : c ≤ 20) (h : post 0) : wpY_badCost post (N, K, R, B, S, T, L, D, G, A) (nI c) := br_f (nI_nlt (a := c) (b := 1) h1 (by omega)) (br_t (nI_le (b := 20) h2 (by decide)) h)
theorem ry_co0 {post : Int32 → Prop} {x : Int32} (hx : x < 1 ∨ 20 < x) (h : post 1) : wpY_badCost post (N, K, R, B, S, T, L, D, G, A) x := by
  unfold wpY_badCost
  dsimp only
  by_cases g : x < 1
  · exact br_t g h
  · exact br_f g (br_f (Int32.not_le.mpr (hx.resolve_left g)) h)
theorem ry_tok {post : Int32 → Prop} {m : Nat} (hm : m < 4) {n w : Nat} (hM : ra_M (R m) (B m) (S m) (T m) (D m) n) (hw : w ≤ 1000) (h : post (ra_min (T m) (R m) (B m) (nI w))) : wpY_tokensIn post (N, K, R, B, S, T, L, D, G, A) (nI m) (nI w) := by
  have v := rx_in hm
  obtain ⟨r, b, s, t, ⟨hr1, hr, hb1, hb2, hs1, hs, ht⟩, eR, eB, eS, eT, hd, hd2⟩ := hM
  have h2 : post (nI (ra_mn (t + r * w) b)) := by
    rw [eR, eB, eT, ra_min_n (by omega) hr hb2 hw] at h
    exact h
  have lp : ∀ d i, i + d = w → wY_tokensIn_10 post (nI m) (nI w) N K R B S T L D G A (d + 1) (nI (ra_mn (t + r * i) b)) (nI i) := by
    intro d
    induction d with
    | zero =>
      intro i hi
      obtain rfl : i = w := by omega
      exact br_t (nI_le (Nat.le_refl i) (by omega)) h2
    | succ d ih =>
      intro i hi
      have ih := ih (i + 1) (by omega)
      have b1 := ra_mn_le (t + r * i) b
      rw [wY_tokensIn_10]
      dsimp only
      rw [rx_cl hm, eR, eB, nI_add]
      refine br_f (nI_ge (by omega) (by omega)) ⟨v, v, ?_⟩
      rcases ra_stp t r b i with ⟨a1, a2⟩ | ⟨a1, a2⟩
      · rw [a2] at ih
        exact br_f (nI_ge a1 (by omega)) ⟨v, nm_e (nm_r (nI_1 i) ih)⟩
      · rw [a2] at ih
        exact br_t (nI_le a1 (by omega)) ⟨v, nm_e (nm_r (nI_1 i) ih)⟩
  have e0 : T m = nI (ra_mn (t + r * 0) b) := by
    rw [Nat.mul_zero, Nat.add_zero, ra_mn_c ht]
    exact eT
  unfold wpY_tokensIn
  dsimp only
  rw [rx_cl hm]
  exact ⟨v, nm_r e0 ⟨w + 1, lp w 0 (by omega)⟩⟩
theorem ry_log_lp {post : Int32 → Prop} {m : Nat} (hm : m < 4) {w : Int32} (h : post (ra_sum L (S m) w (m * 10) 10)) : ∀ d i, i + d = 10 → wY_loggedIn_5 post (nI m) w N K R B S T L D G A (d + 1) (ra_sum L (S m) w (m * 10) i) (nI i) := by
  intro d
  induction d with
  | zero =>
    intro i hi
    obtain rfl : i = 10 := by omega
    exact br_t (nI_le (a := 10) (b := 10) (Nat.le_refl 10) (by decide)) h
  | succ d ih =>
    intro i hi
    have ih := ih (i + 1) (by omega)
    rw [wY_loggedIn_5]
    dsimp only
    rw [rx_cl hm, rx_xcl hm (by omega)]
    refine br_f (nI_ge (b := 10) (by omega) (by decide)) ⟨rx_in hm, ?_⟩
    by_cases g : S m ≤ nI i + w
    · have e : ra_sum L (S m) w (m * 10) (i + 1) = ra_sum L (S m) w (m * 10) i := if_pos g
      rw [e] at ih
      exact br_t g (nm_r (nI_1 i) ih)
    · have e : ra_sum L (S m) w (m * 10) (i + 1) = ra_sum L (S m) w (m * 10) i + L (m * 10 + i) := if_neg g
      exact br_f g ⟨rx_xin hm (by omega), nm_r e.symm (nm_r (nI_1 i) ih)⟩
theorem ry_log {post : Int32 → Prop} {m : Nat} (hm : m < 4) {w : Int32} (h : post (ra_sum L (S m) w (m * 10) 10)) : wpY_loggedIn post (N, K, R, B, S, T, L, D, G, A) (nI m) w := ⟨11, ry_log_lp hm h 10 0 rfl⟩
theorem ry_wd {post : Int32 → Prop} {m : Nat} (hm : m < 4) {n w : Nat} (hM : ra_M (R m) (B m) (S m) (T m) (D m) n) (hw : w ≤ 1000) {c : Int32} (h1 : ra_W N K R B S T D L m c (nI w) = true → post 1) (h0 : ra_W N K R B S T D L m c (nI w) = false → post 0) : wpY_would post (N, K, R, B, S, T, L, D, G, A) (nI m) c (nI w) := by
  have v := rx_in hm
  unfold ra_W at h1 h0
  unfold wpY_would
  dsimp only
  rw [rx_cl hm]
  by_cases k0 : K m = 0
  · rw [ra_wd0 k0, ra_bt] at h1
    rw [ra_wd0 k0, ra_bf] at h0
    exact ⟨v, br_t k0 (ry_tok hm hM hw (br_c h0 h1))⟩
  · by_cases k1 : K m = 1
    · rw [ra_wd1 k0 k1, ra_bt, Int32.add_comm] at h1
      rw [ra_wd1 k0 k1, ra_bf, Int32.add_comm] at h0
      exact ⟨v, br_f k0 ⟨v, br_t k1 (ry_log hm ⟨v, br_c h0 h1⟩)⟩⟩
    · rw [ra_wd2 k0 k1, ra_bt] at h1
      rw [ra_wd2 k0 k1, ra_bf] at h0
      unfold ra_st at h1 h0
      refine ⟨v, br_f k0 ⟨v, br_f k1 (nm_e ⟨v, ?_⟩)⟩⟩
      by_cases g : D m ≤ N + nI w
      · rw [if_pos g] at h1 h0
        refine br_t g ?_
        unfold wY_would_88
        rw [rx_cl hm]
        exact ⟨v, v, v, br_c h0 h1⟩
      · rw [if_neg g] at h1 h0
        refine br_f g ⟨v, ?_⟩
        unfold wY_would_88
        rw [rx_cl hm]
        exact ⟨v, v, v, br_c h0 h1⟩
theorem ry_wd0 {post : Int32 → Prop} {m : Nat} (hm : m < 4) {n : Nat} (hM : ra_M (R m) (B m) (S m) (T m) (D m) n) {c : Int32} (h1 : ra_W N K R B S T D L m c 0 = true → post 1) (h0 : ra_W N K R B S T D L m c 0 = false → post 0) : wpY_would post (N, K, R, B, S, T, L, D, G, A) (nI m) c 0 := ry_wd (w := 0) hm hM (by omega) h1 h0
theorem ry_gr {post : SY → Prop} {m : Nat} (hm : m < 4) {c : Int32} (h : post (N, K, R, B, S, ra_gT K T m c, ra_gL K L m c, ra_gD N K S D m c, upd G m (G m + c), A)) : wpY_grant post (N, K, R, B, S, T, L, D, G, A) (nI m) c := by
  have v := rx_in hm
  have v2 := rx_yin hm
  unfold wpY_grant
  dsimp only
  rw [rx_cl hm, rx_ycl hm]
  refine ⟨v, v, nm_e ⟨v, ?_⟩⟩
  unfold ra_gT ra_gD ra_gL at h
  by_cases k0 : K m = 0
  · rw [if_pos k0, if_pos k0, if_pos k0] at h
    exact br_t k0 ⟨v, v, nm_e h⟩
  · rw [if_neg k0, if_neg k0, if_neg k0] at h
    by_cases k1 : K m = 1
    · rw [if_pos k1, if_pos k1] at h
      exact br_f k0 ⟨v, br_t k1 ⟨v2, v2, nm_e h⟩⟩
    · rw [if_neg k1, if_neg k1] at h
      unfold ra_st at h
      refine br_f k0 ⟨v, br_f k1 ⟨v, ?_⟩⟩
      by_cases g : D m ≤ N
      · rw [if_pos g] at h
        refine br_t g ?_
        unfold wY_grant_99
        rw [rx_cl hm]
        exact ⟨v, v, nm_e h⟩
      · rw [if_neg g] at h
        refine br_f g ⟨v, ?_⟩
        unfold wY_grant_99
        rw [rx_cl hm]
        exact ⟨v, v, nm_e h⟩
theorem ry_mk_lp {post : SY → Prop} {m : Nat} (hm : m < 4) (h : post (N, K, R, B, S, T, ra_z L (m * 10) 10, upd D m (-1000000), upd G m 0, upd A m 0)) : ∀ d i, i + d = 10 → wY_make_41 post (nI m) N (d + 1) (nI i) K R B S T (ra_z L (m * 10) i) D G A := by
  have v := rx_in hm
  intro d
  induction d with
  | zero =>
    intro i hi
    obtain rfl : i = 10 := by omega
    rw [wY_make_41]
    dsimp only
    rw [rx_cl hm]
    exact br_t (nI_le (a := 10) (b := 10) (Nat.le_refl 10) (by decide)) ⟨v, nm_e ⟨v, nm_e ⟨v, nm_e h⟩⟩⟩
  | succ d ih =>
    intro i hi
    have ih := ih (i + 1) (by omega)
    rw [wY_make_41]
    dsimp only
    rw [rx_xcl hm (by omega)]
    exact br_f (nI_ge (b := 10) (by omega) (by decide)) ⟨rx_xin hm (by omega), nm_r (e' := ra_z L (m * 10) (i + 1)) rfl (nm_r (nI_1 i) ih)⟩
theorem ry_mk {post : SY → Prop} {m : Nat} (hm : m < 4) {k r b s : Int32} (h : post (N, upd K m k, upd R m r, upd B m b, upd S m s, upd T m b, ra_z L (m * 10) 10, upd D m (-1000000), upd G m 0, upd A m 0)) : wpY_make post (N, K, R, B, S, T, L, D, G, A) (nI m) k r b s := by
  have v := rx_in hm
  unfold wpY_make
  dsimp only
  rw [rx_cl hm]
  exact ⟨v, nm_e ⟨v, nm_e ⟨v, nm_e ⟨v, nm_e ⟨v, nm_e ⟨11, ry_mk_lp hm h 10 0 rfl⟩⟩⟩⟩⟩⟩
theorem ry_init {post : SY → Prop} (h : post (0, ra_cn (fun _ => 0) 0 4, ra_cn (fun _ => 0) 1 4, ra_cn (fun _ => 0) 10 4, ra_cn (fun _ => 0) 1 4, ra_cn (fun _ => 0) 10 4, ra_zl (fun _ => 0) 4, ra_cn (fun _ => 0) (-1000000) 4, ra_cn (fun _ => 0) 0 4, ra_cn (fun _ => 0) 0 4)) : wpY_init post := by
  have lp : ∀ d i, i + d = 4 → wY_init_70 post (d + 1) (nI i) 0 (ra_cn (fun _ => 0) 0 i) (ra_cn (fun _ => 0) 1 i) (ra_cn (fun _ => 0) 10 i) (ra_cn (fun _ => 0) 1 i) (ra_cn (fun _ => 0) 10 i) (ra_zl (fun _ => 0) i) (ra_cn (fun _ => 0) (-1000000) i) (ra_cn (fun _ => 0) 0 i) (ra_cn (fun _ => 0) 0 i) := by
    intro d
    induction d with
    | zero =>
      intro i hi
      obtain rfl : i = 4 := by omega
      exact br_t (nI_le (a := 4) (b := 4) (Nat.le_refl 4) (by decide)) h
    | succ d ih =>
      intro i hi
      have ih := ih (i + 1) (by omega)
      rw [wY_init_70]
      dsimp only
      exact br_f (nI_ge (b := 4) (by omega) (by decide)) (ry_mk (by omega) (nm_r (nI_1 i) ih))
  exact ⟨5, lp 4 0 rfl⟩
theorem ry_is {P Q : Prop} {s : Int32} {i : Nat} (h1 : ra_in s i = true → P) (h0 : ¬ ra_in s i = true → Q) : (((s >>> (nI i &&& 31)) &&& 1) = 1 → P) ∧ (¬ ((s >>> (nI i &&& 31)) &&& 1) = 1 → Q) := br_c (fun g => h1 (decide_eq_true g)) (fun g => h0 (fun z => g (of_decide_eq_true z)))
theorem ry_aa20 {post : Int32 → SY → Prop} {s c f : Int32} (hf : f = 0) (h : post 0 (N, K, R, B, S, T, L, D, G, A)) : ∀ d i, i + d = 4 → wY_askAll_70 post s c f (d + 1) (nI i) N K R B S T L D G A := by
  intro d
  induction d with
  | zero =>
    intro i hi
    obtain rfl : i = 4 := by omega
    exact br_t (nI_le (a := 4) (b := 4) (Nat.le_refl 4) (by decide)) (br_t hf h)
  | succ d ih =>
    intro i hi
    have ih := ih (i + 1) (by omega)
    exact br_f (nI_ge (b := 4) (by omega) (by decide)) (br_t hf (nm_r (nI_1 i) ih))
theorem ry_aa2 {post : Int32 → SY → Prop} {s c f : Int32} (hf : ¬ f = 0) (h : post 1 (N, K, R, B, S, (ra_gs N K S (ra_in s) c T D G L 4).1, (ra_gs N K S (ra_in s) c T D G L 4).2.2.2, (ra_gs N K S (ra_in s) c T D G L 4).2.1, (ra_gs N K S (ra_in s) c T D G L 4).2.2.1, A)) : ∀ d i, i + d = 4 → wY_askAll_70 post s c f (d + 1) (nI i) N K R B S (ra_gs N K S (ra_in s) c T D G L i).1 (ra_gs N K S (ra_in s) c T D G L i).2.2.2 (ra_gs N K S (ra_in s) c T D G L i).2.1 (ra_gs N K S (ra_in s) c T D G L i).2.2.1 A := by
  intro d
  induction d with
  | zero =>
    intro i hi
    obtain rfl : i = 4 := by omega
    exact br_t (nI_le (a := 4) (b := 4) (Nat.le_refl 4) (by decide)) (br_f hf h)
  | succ d ih =>
    intro i hi
    have ih := ih (i + 1) (by omega)
    rw [wY_askAll_70]
    dsimp only
    refine br_f (nI_ge (b := 4) (by omega) (by decide)) (br_f hf (ry_is (fun g => ?_) (fun g => ?_)))
    · rw [ra_gs_t g] at ih
      exact ry_gr (by omega) (nm_r (nI_1 i) ih)
    · rw [ra_gs_f g] at ih
      exact nm_r (nI_1 i) ih
theorem ry_aa1 {post : Int32 → SY → Prop} {s c : Int32} {n : Nat} (hM : ra_Ms R B S T D n) (h0 : ra_al (ra_p N K R B S T D L s c) 4 = 0 → post 0 (N, K, R, B, S, T, L, D, G, ra_dn (ra_p N K R B S T D L s c) A 4)) (h1 : ¬ ra_al (ra_p N K R B S T D L s c) 4 = 0 → post 1 (N, K, R, B, S, (ra_gs N K S (ra_in s) c T D G L 4).1, (ra_gs N K S (ra_in s) c T D G L 4).2.2.2, (ra_gs N K S (ra_in s) c T D G L 4).2.1, (ra_gs N K S (ra_in s) c T D G L 4).2.2.1, ra_dn (ra_p N K R B S T D L s c) A 4)) : ∀ d i, i + d = 4 → wY_askAll_16 post s c N (d + 1) (ra_al (ra_p N K R B S T D L s c) i) (nI i) K R B S T L D G (ra_dn (ra_p N K R B S T D L s c) A i) := by
  intro d
  induction d with
  | zero =>
    intro i hi
    obtain rfl : i = 4 := by omega
    refine br_t (nI_le (a := 4) (b := 4) (Nat.le_refl 4) (by decide)) ?_
    by_cases g : ra_al (ra_p N K R B S T D L s c) 4 = 0
    · exact ⟨5, ry_aa20 g (h0 g) 4 0 rfl⟩
    · exact ⟨5, ry_aa2 (T := T) (D := D) (G := G) (L := L) g (h1 g) 4 0 rfl⟩
  | succ d ih =>
    intro i hi
    have ih := ih (i + 1) (by omega)
    have i4 : i < 4 := by omega
    rw [wY_askAll_16]
    dsimp only
    rw [rx_cl i4]
    refine br_f (nI_ge (b := 4) i4 (by decide)) (ry_is (fun g => ?_) (fun g => ?_))
    · refine ry_wd0 i4 (hM i i4) (fun w => ?_) (fun w => ?_)
      · rw [ra_dn_f (ra_p_f w), ra_al_f (ra_p_f w)] at ih
        exact br_f ra_10 (nm_r (nI_1 i) ih)
      · rw [ra_dn_t (ra_p_t g w), ra_al_t (ra_p_t g w)] at ih
        exact br_t rfl ⟨rx_in i4, rx_in i4, nm_e (nm_r (nI_1 i) ih)⟩
    · rw [ra_dn_f (ra_p_g g), ra_al_f (ra_p_g g)] at ih
      exact nm_r (nI_1 i) ih
theorem ry_aa {post : Int32 → SY → Prop} {s : Int32} {c n : Nat} (hM : ra_Ms R B S T D n) (hc1 : 1 ≤ c) (hc : c ≤ 20) (h0 : ra_al (ra_p N K R B S T D L s (nI c)) 4 = 0 → post 0 (N, K, R, B, S, T, L, D, G, ra_dn (ra_p N K R B S T D L s (nI c)) A 4)) (h1 : ¬ ra_al (ra_p N K R B S T D L s (nI c)) 4 = 0 → post 1 (N, K, R, B, S, (ra_gs N K S (ra_in s) (nI c) T D G L 4).1, (ra_gs N K S (ra_in s) (nI c) T D G L 4).2.2.2, (ra_gs N K S (ra_in s) (nI c) T D G L 4).2.1, (ra_gs N K S (ra_in s) (nI c) T D G L 4).2.2.1, ra_dn (ra_p N K R B S T D L s (nI c)) A 4)) : wpY_askAll post (N, K, R, B, S, T, L, D, G, A) s (nI c) := by
  unfold wpY_askAll
  dsimp only
  exact ry_co1 hc1 hc (br_t rfl ⟨5, ry_aa1 hM h0 h1 4 0 rfl⟩)
theorem ry_ag_lp {post : Int32 → SY → Prop} {J : Int32 → (Nat → Int32) → (Nat → Int32) → (Nat → Int32) → (Nat → Int32) → (Nat → Int32) → (Nat → Int32) → (Nat → Int32) → (Nat → Int32) → (Nat → Int32) → Prop} {m u : Nat} (hm : m < 4) (hu : u ≤ 1000) (h : J (nI (m + 1)) K R B S T (ra_ag L (m * 10) u 10) D G A) : ∀ k d, d + k = 10 → wY_pass_60 post J (nI u) (nI m) N (k + 1) (ra_pv k) K R B S T (ra_ag L (m * 10) u d) D G A := by
  intro k
  induction k with
  | zero =>
    intro d hd
    obtain rfl : d = 10 := by omega
    exact br_t (show (-1 : Int32) < 0 by decide) (nm_r (nI_1 m) h)
  | succ k ih =>
    intro d hd
    have ih := ih (d + 1) (by omega)
    have e9 : 9 - d = k := by omega
    rw [wY_pass_60]
    dsimp only
    show (nI k < 0 → _) ∧ (¬ nI k < 0 → _)
    refine br_f (nI_pos (by omega)) ?_
    by_cases g : u ≤ k
    · rw [ra_ag_t e9 g] at ih
      have e1 : nI m * 10 + nI k = nI (m * 10 + k) := rx_ix m k
      have e2 : nI m * 10 + nI k - nI u = nI (m * 10 + k - u) := by rw [rx_ix, pk_sub (by omega)]
      refine br_f (nI_nlt g (by omega)) ⟨?_, ?_, nm_r ?_ (nm_r (ra_pv_m1 k) ih)⟩
      · show vp_in (nI m * 10 + nI k - nI u) 40
        rw [e2]
        exact vp_in_nI (by omega) (by omega)
      · show vp_in (nI m * 10 + nI k) 40
        rw [e1]
        exact vp_in_nI (by omega) (by omega)
      · show upd _ (nI m * 10 + nI k).toNatClampNeg (ra_ag L (m * 10) u d (nI m * 10 + nI k - nI u).toNatClampNeg) = _
        rw [e2, e1, nI_clamp (by omega), nI_clamp (by omega)]
    · rw [ra_ag_f e9 g] at ih
      have e1 : nI m * 10 + nI k = nI (m * 10 + k) := rx_ix m k
      refine br_t (nI_lt (by omega) (by omega)) ⟨?_, nm_r ?_ (nm_r (ra_pv_m1 k) ih)⟩
      · show vp_in (nI m * 10 + nI k) 40
        rw [e1]
        exact vp_in_nI (by omega) (by omega)
      · show upd _ (nI m * 10 + nI k).toNatClampNeg 0 = _
        rw [e1, nI_clamp (by omega)]
theorem ry_ps_lp {post : Int32 → SY → Prop} {u n : Nat} (hu : u ≤ 1000) (hM : ra_Ms R B S T D n) (h : post N (N, K, R, B, S, ra_pT R B T (nI u) 4, ra_pL L u 4, D, G, A)) : ∀ d i, i + d = 4 → wY_pass_40 post (nI u) N (d + 1) (nI i) K R B S (ra_pT R B T (nI u) i) (ra_pL L u i) D G A := by
  intro d
  induction d with
  | zero =>
    intro i hi
    obtain rfl : i = 4 := by omega
    exact br_t (nI_le (a := 4) (b := 4) (Nat.le_refl 4) (by decide)) h
  | succ d ih =>
    intro i hi
    have ih := ih (i + 1) (by omega)
    have i4 : i < 4 := by omega
    rw [wY_pass_40]
    dsimp only
    rw [rx_cl i4]
    exact br_f (nI_ge (b := 4) i4 (by decide)) (ry_tok i4 (ra_pT_g hM hu i (by omega) i i4) hu ⟨rx_in i4, nm_e ⟨11, ry_ag_lp i4 hu ih 10 0 rfl⟩⟩)
end
end
section
/-! the two sides keep the same meters, within their bounds -/
def i_Rel (_ : Nat) (u : SX) (v : SY) : Prop := ∃ (N : Int32) (K R B S T D G A L : Nat → Int32), u = (N, K, R, B, S, T, D, G, A, L) ∧ v = (N, K, R, B, S, T, L, D, G, A) ∧ ra_ok N R B S T D L
theorem rt_rel {k : Nat} {N : Int32} {K R B S T D G A L : Nat → Int32} (h : ra_ok N R B S T D L) : i_Rel k (N, K, R, B, S, T, D, G, A, L) (N, K, R, B, S, T, L, D, G, A) := ⟨N, K, R, B, S, T, D, G, A, L, rfl, rfl, h⟩
theorem i_up {k : Nat} {u : SX} {v : SY} (h : i_Rel k u v) : i_Rel (k + 4) u v := h
theorem i_vc0 : wpX_init (fun u => wpY_init (fun v => i_Rel 0 u v)) := rx_init (ry_init (rt_rel (ra_ok0 _ _ _ _ _)))
section
variable {N : Int32} {K R B S T D G A L : Nat → Int32}
theorem ry_set {post : Int32 → SY → Prop} {m : Nat} (hm : m < 4) {v2 v3 : Int32} (h : (v2 < 0 → post (-2) (N, K, R, B, S, T, L, D, G, A)) ∧ (¬ v2 < 0 → ((v2 ≤ 2 → ((v3 &&& 7 < 1 → post (-3) (N, K, R, B, S, T, L, D, G, A)) ∧ (¬ v3 &&& 7 < 1 → ((5 < v3 &&& 7 → post (-3) (N, K, R, B, S, T, L, D, G, A)) ∧ (¬ 5 < v3 &&& 7 → (((v3 >>> ((3 : Int32) &&& 31)) &&& 31 < 1 → post (-3) (N, K, R, B, S, T, L, D, G, A)) ∧ (¬ (v3 >>> ((3 : Int32) &&& 31)) &&& 31 < 1 → ((30 < (v3 >>> ((3 : Int32) &&& 31)) &&& 31 → post (-3) (N, K, R, B, S, T, L, D, G, A)) ∧ (¬ 30 < (v3 >>> ((3 : Int32) &&& 31)) &&& 31 → (((v3 >>> ((8 : Int32) &&& 31)) &&& 15 < 1 → post (-3) (N, K, R, B, S, T, L, D, G, A)) ∧ (¬ (v3 >>> ((8 : Int32) &&& 31)) &&& 15 < 1 → (((v3 >>> ((8 : Int32) &&& 31)) &&& 15 ≤ 10 → post 0 (N, upd K m v2, upd R m (v3 &&& 7), upd B m ((v3 >>> ((3 : Int32) &&& 31)) &&& 31), upd S m ((v3 >>> ((8 : Int32) &&& 31)) &&& 15), upd T m ((v3 >>> ((3 : Int32) &&& 31)) &&& 31), ra_z L (m * 10) 10, upd D m (-1000000), upd G m 0, upd A m 0)) ∧ (¬ (v3 >>> ((8 : Int32) &&& 31)) &&& 15 ≤ 10 → post (-3) (N, K, R, B, S, T, L, D, G, A)))))))))))))) ∧ (¬ v2 ≤ 2 → post (-2) (N, K, R, B, S, T, L, D, G, A))))) : wpY_set post (N, K, R, B, S, T, L, D, G, A) (nI m) v2 v3 := by
  unfold wpY_set
  dsimp only
  refine ry_me1 hm (br_t rfl ⟨h.1, fun a => ⟨fun b => nm_e (nm_e (nm_e ?_)), (h.2 a).2⟩⟩)
  have h := (h.2 a).1 b
  refine ⟨h.1, fun c => ?_⟩
  have h := h.2 c
  refine ⟨h.1, fun c => ?_⟩
  have h := h.2 c
  refine ⟨h.1, fun c => ?_⟩
  have h := h.2 c
  refine ⟨h.1, fun c => ?_⟩
  have h := h.2 c
  refine ⟨h.1, fun c => ?_⟩
  have h := h.2 c
  exact ⟨fun c => ry_mk hm (h.1 c), h.2⟩
theorem rt_set_ok (h : ra_ok N R B S T D L) (m : Nat) {x y z : Int32} {v3 : Int32} (ex : v3 &&& 7 = x) (ey : (v3 >>> ((3 : Int32) &&& 31)) &&& 31 = y) (ez : (v3 >>> ((8 : Int32) &&& 31)) &&& 15 = z) (x1 : ¬ x < 1) (x2 : ¬ 5 < x) (y1 : ¬ y < 1) (y2 : ¬ 30 < y) (z1 : ¬ z < 1) (z2 : z ≤ 10) : ra_ok N (upd R m x) (upd B m y) (upd S m z) (upd T m y) (upd D m (-1000000)) (ra_z L (m * 10) 10) := by
  obtain ⟨r, hr, er⟩ := pk_andE v3 (m := 7) 3 (by decide)
  obtain ⟨b, hb, eb⟩ := pk_andE (v3 >>> ((3 : Int32) &&& 31)) (m := 31) 5 (by decide)
  obtain ⟨s, hs, es⟩ := pk_andE (v3 >>> ((8 : Int32) &&& 31)) (m := 15) 4 (by decide)
  rw [er] at ex
  rw [eb] at ey
  rw [es] at ez
  subst ex ey ez
  have x1' : ¬ nI r < nI 1 := x1
  have x2' : ¬ nI 5 < nI r := x2
  have y1' : ¬ nI b < nI 1 := y1
  have y2' : ¬ nI 30 < nI b := y2
  have z1' : ¬ nI s < nI 1 := z1
  have z2' : nI s ≤ nI 10 := z2
  have r8 : r < 8 := hr
  have b32 : b < 32 := hb
  have s16 : s < 16 := hs
  rw [nI_ltI (by omega) (by omega)] at x1' x2' y1' y2' z1'
  rw [nI_leI (by omega) (by omega)] at z2'
  exact ra_set_ok h m (by omega) (by omega) (by omega) (by omega) (by omega) (by omega)
end
theorem i_vc_set {k : Nat} {u : SX} {v : SY} (I : i_Rel k u v) (hk : k + 4 ≤ 2048) (v1 : Int32) (v2 : Int32) (v3 : Int32) : wpX_set (fun r u' => wpY_set (fun r' v' => r' = r ∧ i_Rel (k + 4) u' v') v v1 v2 v3) u v1 v2 v3 := by
  obtain ⟨N, K, R, B, S, T, D, G, A, L, rfl, rfl, ok⟩ := I
  have J : i_Rel (k + 4) (N, K, R, B, S, T, D, G, A, L) (N, K, R, B, S, T, L, D, G, A) := rt_rel ok
  unfold wpX_set
  dsimp only
  refine nm_e (nm_e (nm_e ?_))
  rcases pk_ix v1 (n := 4) (by decide) with h | h | ⟨m, hm, rfl⟩
  · refine rx_me0 (Or.inl h) (br_t rfl ?_)
    unfold wpY_set
    dsimp only
    exact ry_me0 (Or.inl h) (br_f ra_10 ⟨rfl, J⟩)
  · refine rx_me0 (Or.inr h) (br_t rfl ?_)
    unfold wpY_set
    dsimp only
    exact ry_me0 (Or.inr h) (br_f ra_10 ⟨rfl, J⟩)
  · refine rx_me1 hm (br_f ra_10 ?_)
    by_cases a : v2 < 0
    · exact br_t a (ry_set hm (br_t a ⟨rfl, J⟩))
    by_cases b : v2 ≤ 2
    rotate_left
    · exact br_f a (br_f b (ry_set hm (br_f a (br_f b ⟨rfl, J⟩))))
    by_cases x1 : v3 &&& 7 < 1
    · exact br_f a (br_t b (br_t x1 (ry_set hm (br_f a (br_t b (br_t x1 ⟨rfl, J⟩))))))
    by_cases x2 : 5 < v3 &&& 7
    · exact br_f a (br_t b (br_f x1 (br_t x2 (ry_set hm (br_f a (br_t b (br_f x1 (br_t x2 ⟨rfl, J⟩))))))))
    by_cases y1 : (v3 >>> ((3 : Int32) &&& 31)) &&& 31 < 1
    · exact br_f a (br_t b (br_f x1 (br_f x2 (br_t y1 (ry_set hm (br_f a (br_t b (br_f x1 (br_f x2 (br_t y1 ⟨rfl, J⟩))))))))))
    by_cases y2 : 30 < (v3 >>> ((3 : Int32) &&& 31)) &&& 31
    · exact br_f a (br_t b (br_f x1 (br_f x2 (br_f y1 (br_t y2 (ry_set hm (br_f a (br_t b (br_f x1 (br_f x2 (br_f y1 (br_t y2 ⟨rfl, J⟩))))))))))))
    by_cases z1 : (v3 >>> ((8 : Int32) &&& 31)) &&& 15 < 1
    · exact br_f a (br_t b (br_f x1 (br_f x2 (br_f y1 (br_f y2 (br_t z1 (ry_set hm (br_f a (br_t b (br_f x1 (br_f x2 (br_f y1 (br_f y2 (br_t z1 ⟨rfl, J⟩))))))))))))))
    by_cases z2 : (v3 >>> ((8 : Int32) &&& 31)) &&& 15 ≤ 10
    · exact br_f a (br_t b (br_f x1 (br_f x2 (br_f y1 (br_f y2 (br_f z1 (br_t z2 (rx_mk hm (ry_set hm (br_f a (br_t b (br_f x1 (br_f x2 (br_f y1 (br_f y2 (br_f z1 (br_t z2 ⟨rfl, rt_rel (rt_set_ok ok m rfl rfl rfl x1 x2 y1 y2 z1 z2)⟩)))))))))))))))))
    · exact br_f a (br_t b (br_f x1 (br_f x2 (br_f y1 (br_f y2 (br_f z1 (br_f z2 (ry_set hm (br_f a (br_t b (br_f x1 (br_f x2 (br_f y1 (br_f y2 (br_f z1 (br_f z2 ⟨rfl, J⟩))))))))))))))))
theorem i_vc_ask {k : Nat} {u : SX} {v : SY} (I : i_Rel k u v) (hk : k + 4 ≤ 2048) (v1 : Int32) (v2 : Int32) : wpX_ask (fun r u' => wpY_ask (fun r' v' => r' = r ∧ i_Rel (k + 4) u' v') v v1 v2) u v1 v2 := by
  obtain ⟨N, K, R, B, S, T, D, G, A, L, rfl, rfl, ok⟩ := I
  have J : i_Rel (k + 4) (N, K, R, B, S, T, D, G, A, L) (N, K, R, B, S, T, L, D, G, A) := rt_rel ok
  unfold wpX_ask
  dsimp only
  rcases pk_ix v1 (n := 4) (by decide) with h | h | ⟨m, hm, rfl⟩
  · refine rx_me0 (Or.inl h) (br_t rfl ?_)
    unfold wpY_ask
    dsimp only
    exact ry_me0 (Or.inl h) (br_f ra_10 ⟨rfl, J⟩)
  · refine rx_me0 (Or.inr h) (br_t rfl ?_)
    unfold wpY_ask
    dsimp only
    exact ry_me0 (Or.inr h) (br_f ra_10 ⟨rfl, J⟩)
  · refine rx_me1 hm (br_f ra_10 ?_)
    rcases ra_cost v2 with h | ⟨c, hc1, hc, rfl⟩
    · refine rx_co0 h (br_t rfl ?_)
      unfold wpY_ask
      dsimp only
      refine ry_me1 hm (br_t rfl ?_)
      unfold wpY_askAll
      dsimp only
      exact ry_co0 h (br_f ra_10 ⟨rfl, J⟩)
    · have v := rx_in hm
      have hM : ∃ n, ra_Ms R B S T D n := by
        obtain ⟨n, _, _, hM, _⟩ := ok
        exact ⟨n, hM⟩
      obtain ⟨n, hM⟩ := hM
      rw [rx_cl hm]
      refine rx_co1 hc1 hc (br_f ra_10 (rx_wd hm (fun w => ?_) (fun w => ?_)))
      · refine br_f ra_10 (rx_gr hm ?_)
        dsimp only
        unfold wpY_ask
        dsimp only
        have hp : ∀ i, i < 4 → ¬ ra_p N K R B S T D L ((1 : Int32) <<< (nI m &&& 31)) (nI c) i = true := by
          intro i hi
          by_cases e : i = m
          · subst e
            exact ra_p_f w
          · exact ra_p_g (fun z => e ((ra_in_one hm hi).mp z))
        obtain ⟨d1, d2⟩ := ra_none_dn (DN := A) hp 4 (Nat.le_refl 4)
        have g1 := (ra_one_gs (N := N) (K := K) (S := S) (c := nI c) (T := T) (D := D) (G := G) (L := L) (fun i hi => ra_in_one hm hi) 4 (Nat.le_refl 4)).2 hm
        refine ry_me1 hm (br_t rfl (ry_aa hM hc1 hc (fun z => ?_) (fun z => ?_)))
        · rw [d2] at z
          exact absurd z ra_10
        · rw [d1, g1]
          exact ⟨rfl, rt_rel (ra_gok ok hm hc1 hc w)⟩
      · refine br_t rfl ⟨v, v, nm_e ?_⟩
        unfold wpY_ask
        dsimp only
        have hp : ∀ i, i < 4 → (ra_p N K R B S T D L ((1 : Int32) <<< (nI m &&& 31)) (nI c) i = true ↔ i = m) := by
          intro i hi
          constructor
          · intro z
            by_cases e : ra_in ((1 : Int32) <<< (nI m &&& 31)) i = true
            · exact (ra_in_one hm hi).mp e
            · exact absurd z (ra_p_g e)
          · intro e
            subst e
            exact ra_p_t ((ra_in_one hm hi).mpr rfl) w
        obtain ⟨d1, d2⟩ := (ra_one_dn (DN := A) hp 4 (Nat.le_refl 4)).2 hm
        refine ry_me1 hm (br_t rfl (ry_aa hM hc1 hc (fun z => ?_) (fun z => ?_)))
        · rw [d1]
          exact ⟨rfl, rt_rel ok⟩
        · exact absurd d2 z
theorem i_vc_askAll {k : Nat} {u : SX} {v : SY} (I : i_Rel k u v) (hk : k + 4 ≤ 2048) (v1 : Int32) (v2 : Int32) : wpX_askAll (fun r u' => wpY_askAll (fun r' v' => r' = r ∧ i_Rel (k + 4) u' v') v v1 v2) u v1 v2 := by
  obtain ⟨N, K, R, B, S, T, D, G, A, L, rfl, rfl, ok⟩ := I
  have J : i_Rel (k + 4) (N, K, R, B, S, T, D, G, A, L) (N, K, R, B, S, T, L, D, G, A) := rt_rel ok
  rcases ra_cost v2 with h | ⟨c, hc1, hc, rfl⟩
  · unfold wpX_askAll
    dsimp only
    refine rx_co0 h (br_t rfl ?_)
    unfold wpY_askAll
    dsimp only
    exact ry_co0 h (br_f ra_10 ⟨rfl, J⟩)
  · have hM : ∃ n, ra_Ms R B S T D n := by
      obtain ⟨n, _, _, hM, _⟩ := ok
      exact ⟨n, hM⟩
    obtain ⟨n, hM⟩ := hM
    refine rx_aa hc1 hc (fun z => ry_aa hM hc1 hc (fun _ => ⟨rfl, rt_rel ok⟩) (fun z2 => absurd z z2)) (fun z => ry_aa hM hc1 hc (fun z2 => absurd z2 z) (fun _ => ⟨rfl, rt_rel ?_⟩))
    exact (ra_gsok (K := K) (G := G) ok hc1 hc (fun i hi g => ra_p_w g (ra_al_no 4 z i hi)) 4 (Nat.le_refl 4)).1
theorem i_vc_pass {k : Nat} {u : SX} {v : SY} (I : i_Rel k u v) (hk : k + 4 ≤ 2048) (v1 : Int32) : wpX_pass (fun r u' => wpY_pass (fun r' v' => r' = r ∧ i_Rel (k + 4) u' v') v v1) u v1 := by
  obtain ⟨N, K, R, B, S, T, D, G, A, L, rfl, rfl, ok⟩ := I
  have J : i_Rel (k + 4) (N, K, R, B, S, T, D, G, A, L) (N, K, R, B, S, T, L, D, G, A) := rt_rel ok
  obtain ⟨n, hn, rfl, hM, hL⟩ := ok
  unfold wpX_pass
  dsimp only
  by_cases a : v1 < 0
  · exact br_t a (br_t a ⟨rfl, J⟩)
  by_cases b : v1 ≤ 1000
  rotate_left
  · exact br_f a (br_f b (br_f a (br_f b ⟨rfl, J⟩)))
  by_cases c : nI n + v1 ≤ 100000
  rotate_left
  · exact br_f a (br_t b (br_f c (br_f a (br_t b (br_f c ⟨rfl, J⟩)))))
  obtain ⟨w, hw, rfl⟩ := nI_of2 (n := 1000) (by decide) a b
  have c' : nI n + nI w ≤ nI 100000 := c
  rw [nI_add, nI_leI (by omega) (by omega)] at c'
  refine br_f a (br_t b (br_t c (nm_r (nI_add n w) ⟨5, rx_ps_lp hw ?_ 4 0 rfl⟩)))
  refine br_f a (br_t b (br_t c (nm_r (nI_add n w) ⟨5, ry_ps_lp hw hM ?_ 4 0 rfl⟩)))
  exact ⟨rfl, rt_rel ⟨n + w, c', rfl, ra_pT_g hM hw 4 (Nat.le_refl 4), ra_pL_g hL w 4 (Nat.le_refl 4)⟩⟩
section
variable {N : Int32} {K R B S T D G A L : Nat → Int32}
theorem rt_wait (ok : ra_ok N R B S T D L) {n : Nat} (hM : ra_Ms R B S T D n) {m c : Nat} (hm : m < 4) (hc : c ≤ 20) (hb : nI c ≤ B m) : ∀ d i, i + d = 300 → ∃ r : Int32, (∀ post : Int32 → Prop, post r → wX_waitFor_34 post (nI m) (nI c) N K R B S T D G A L (d + 1) (nI i)) ∧ (∀ post : Int32 → Prop, post r → wY_waitFor_23 post (nI m) (nI c) N K R B S T L D G A (d + 1) (nI i)) := by
  intro d
  induction d with
  | zero =>
    intro i hi
    obtain rfl : i = 300 := by omega
    have w := ra_once (K := K) ok hm hc hb
    refine ⟨nI 300, fun post hp => br_t (nI_le (a := 300) (b := 300) (Nat.le_refl 300) (by decide)) hp, fun post hp => br_f (nI_nlt (a := 300) (b := 300) (Nat.le_refl 300) (by decide)) (ry_wd hm (hM m hm) (by omega) (fun _ => br_f ra_10 hp) (fun z => ?_))⟩
    rw [w] at z
    exact absurd z (by decide)
  | succ d ih =>
    intro i hi
    by_cases w : ra_W N K R B S T D L m (nI c) (nI i) = true
    · refine ⟨nI i, fun post hp => br_f (nI_ge (b := 300) (by omega) (by decide)) (rx_wd hm (fun _ => br_f ra_10 hp) (fun z => ?_)), fun post hp => br_f (nI_nlt (a := 300) (by omega) (by decide)) (ry_wd hm (hM m hm) (by omega) (fun _ => br_f ra_10 hp) (fun z => ?_))⟩
      · rw [w] at z
        exact absurd z (by decide)
      · rw [w] at z
        exact absurd z (by decide)
    · obtain ⟨r, hX, hY⟩ := ih (i + 1) (by omega)
      exact ⟨r, fun post hp => br_f (nI_ge (b := 300) (by omega) (by decide)) (rx_wd hm (fun z => absurd z w) (fun _ => br_t rfl (nm_r (nI_1 i) (hX post hp)))), fun post hp => br_f (nI_nlt (a := 300) (by omega) (by decide)) (ry_wd hm (hM m hm) (by omega) (fun z => absurd z w) (fun _ => br_t rfl (nm_r (nI_1 i) (hY post hp))))⟩
theorem rt_never (ok : ra_ok N R B S T D L) {n : Nat} (hM : ra_Ms R B S T D n) {m c : Nat} (hm : m < 4) (hc : c ≤ 20) (hb : ¬ nI c ≤ B m) {post : Int32 → Prop} (h : post (-4)) : ∀ d i, i + d = 301 → wY_waitFor_23 post (nI m) (nI c) N K R B S T L D G A (d + 1) (nI i) := by
  intro d
  induction d with
  | zero =>
    intro i hi
    obtain rfl : i = 301 := by omega
    exact br_t (nI_lt (a := 300) (b := 301) (by omega) (by decide)) h
  | succ d ih =>
    intro i hi
    have ih := ih (i + 1) (by omega)
    have w := ra_never (K := K) (w := i) ok hm hc (by omega) hb
    refine br_f (nI_nlt (a := 300) (by omega) (by decide)) (ry_wd hm (hM m hm) (by omega) (fun z => ?_) (fun _ => br_t rfl (nm_r (nI_1 i) ih)))
    rw [w] at z
    exact absurd z (by decide)
theorem rt_roomX {m : Nat} (hm : m < 4) {post : Int32 → Prop} : ∀ j, j ≤ 20 → post (nI (ra_rm (fun c => ra_W N K R B S T D L m (nI c) 0) j)) → wX_room_12 post (nI m) N K R B S T D G A L (j + 1) (nI j) := by
  intro j
  induction j with
  | zero =>
    intro _ h
    exact br_t (nI_le (a := 0) (b := 0) (Nat.le_refl 0) (by decide)) h
  | succ j ih =>
    intro hj h
    refine br_f (nI_ge (a := 0) (by omega) (by omega)) (rx_wd hm (fun w => ?_) (fun w => ?_))
    · rw [ra_rm_t (p := fun c => ra_W N K R B S T D L m (nI c) 0) w] at h
      exact br_f ra_10 h
    · have w2 : ¬ ra_W N K R B S T D L m (nI (j + 1)) 0 = true := by
        rw [w]
        decide
      rw [ra_rm_f (p := fun c => ra_W N K R B S T D L m (nI c) 0) w2] at h
      exact br_t rfl (nm_r (pk_m1 j) (ih (by omega) h))
theorem rt_roomY {n : Nat} (hM : ra_Ms R B S T D n) {m : Nat} (hm : m < 4) {post : Int32 → Prop} (h : post (nI (ra_rm (fun c => ra_W N K R B S T D L m (nI c) 0) 20))) : ∀ d i, i + d = 20 → wY_room_14 post (nI m) N K R B S T L D G A (d + 1) (nI (ra_rm (fun c => ra_W N K R B S T D L m (nI c) 0) i)) (nI (i + 1)) := by
  intro d
  induction d with
  | zero =>
    intro i hi
    obtain rfl : i = 20 := by omega
    exact br_t (nI_lt (a := 20) (b := 21) (by omega) (by decide)) h
  | succ d ih =>
    intro i hi
    have ih := ih (i + 1) (by omega)
    refine br_f (nI_nlt (a := 20) (by omega) (by decide)) (ry_wd0 hm (hM m hm) (fun w => ?_) (fun w => ?_))
    · rw [ra_rm_t (p := fun c => ra_W N K R B S T D L m (nI c) 0) w] at ih
      exact br_f ra_10 (nm_r (nI_1 (i + 1)) ih)
    · have w2 : ¬ ra_W N K R B S T D L m (nI (i + 1)) 0 = true := by
        rw [w]
        decide
      rw [ra_rm_f (p := fun c => ra_W N K R B S T D L m (nI c) 0) w2] at ih
      exact br_t rfl (nm_r (nI_1 (i + 1)) ih)
end
theorem i_vc_waitFor {k : Nat} {u : SX} {v : SY} (I : i_Rel k u v) (hk : k + 4 ≤ 2048) (v1 : Int32) (v2 : Int32) : wpX_waitFor (fun r => wpY_waitFor (fun r' => r' = r ∧ i_Rel (k + 4) u v) v v1 v2) u v1 v2 := by
  obtain ⟨N, K, R, B, S, T, D, G, A, L, rfl, rfl, ok⟩ := I
  have J : i_Rel (k + 4) (N, K, R, B, S, T, D, G, A, L) (N, K, R, B, S, T, L, D, G, A) := rt_rel ok
  unfold wpX_waitFor
  dsimp only
  unfold wpY_waitFor
  dsimp only
  rcases pk_ix v1 (n := 4) (by decide) with h | h | ⟨m, hm, rfl⟩
  · exact rx_me0 (Or.inl h) (br_t rfl (ry_me0 (Or.inl h) (br_f ra_10 ⟨rfl, J⟩)))
  · exact rx_me0 (Or.inr h) (br_t rfl (ry_me0 (Or.inr h) (br_f ra_10 ⟨rfl, J⟩)))
  · rcases ra_cost v2 with h | ⟨c, hc1, hc, rfl⟩
    · exact rx_me1 hm (br_f ra_10 (rx_co0 h (br_t rfl (ry_me1 hm (br_t rfl (ry_co0 h (br_f ra_10 ⟨rfl, J⟩)))))))
    · have hM : ∃ n, ra_Ms R B S T D n := by
        obtain ⟨n, _, _, hM, _⟩ := ok
        exact ⟨n, hM⟩
      obtain ⟨n, hM⟩ := hM
      rw [rx_cl hm]
      refine rx_me1 hm (br_f ra_10 (rx_co1 hc1 hc (br_f ra_10 ⟨rx_in hm, ?_⟩)))
      by_cases b : nI c ≤ B m
      · obtain ⟨r, hX, hY⟩ := rt_wait (K := K) (G := G) (A := A) ok hM hm hc b 300 0 rfl
        exact br_t b ⟨301, hX _ (ry_me1 hm (br_t rfl (ry_co1 hc1 hc (br_t rfl ⟨301, hY _ ⟨rfl, J⟩⟩))))⟩
      · exact br_f b (ry_me1 hm (br_t rfl (ry_co1 hc1 hc (br_t rfl ⟨302, rt_never ok hM hm hc b ⟨rfl, J⟩ 301 0 rfl⟩))))
theorem i_vc_room {k : Nat} {u : SX} {v : SY} (I : i_Rel k u v) (hk : k + 4 ≤ 2048) (v1 : Int32) : wpX_room (fun r => wpY_room (fun r' => r' = r ∧ i_Rel (k + 4) u v) v v1) u v1 := by
  obtain ⟨N, K, R, B, S, T, D, G, A, L, rfl, rfl, ok⟩ := I
  have J : i_Rel (k + 4) (N, K, R, B, S, T, D, G, A, L) (N, K, R, B, S, T, L, D, G, A) := rt_rel ok
  unfold wpX_room
  dsimp only
  unfold wpY_room
  dsimp only
  rcases pk_ix v1 (n := 4) (by decide) with h | h | ⟨m, hm, rfl⟩
  · exact rx_me0 (Or.inl h) (br_t rfl (ry_me0 (Or.inl h) (br_f ra_10 ⟨rfl, J⟩)))
  · exact rx_me0 (Or.inr h) (br_t rfl (ry_me0 (Or.inr h) (br_f ra_10 ⟨rfl, J⟩)))
  · obtain ⟨n, hn, eN, hM, hL⟩ := ok
    exact rx_me1 hm (br_f ra_10 ⟨21, rt_roomX hm 20 (Nat.le_refl 20) (ry_me1 hm (br_t rfl ⟨21, rt_roomY hM hm ⟨rfl, J⟩ 20 0 rfl⟩))⟩)
theorem i_vc_granted {k : Nat} {u : SX} {v : SY} (I : i_Rel k u v) (hk : k + 4 ≤ 2048) (v1 : Int32) : wpX_granted (fun r => wpY_granted (fun r' => r' = r ∧ i_Rel (k + 4) u v) v v1) u v1 := by
  obtain ⟨N, K, R, B, S, T, D, G, A, L, rfl, rfl, ok⟩ := I
  have J : i_Rel (k + 4) (N, K, R, B, S, T, D, G, A, L) (N, K, R, B, S, T, L, D, G, A) := rt_rel ok
  unfold wpX_granted
  dsimp only
  unfold wpY_granted
  dsimp only
  rcases pk_ix v1 (n := 4) (by decide) with h | h | ⟨m, hm, rfl⟩
  · exact rx_me0 (Or.inl h) (br_t rfl (ry_me0 (Or.inl h) (br_f ra_10 ⟨rfl, J⟩)))
  · exact rx_me0 (Or.inr h) (br_t rfl (ry_me0 (Or.inr h) (br_f ra_10 ⟨rfl, J⟩)))
  · exact rx_me1 hm (br_f ra_10 ⟨rx_in hm, ry_me1 hm (br_t rfl ⟨rx_in hm, rfl, J⟩)⟩)
theorem i_vc_denied {k : Nat} {u : SX} {v : SY} (I : i_Rel k u v) (hk : k + 4 ≤ 2048) (v1 : Int32) : wpX_denied (fun r => wpY_denied (fun r' => r' = r ∧ i_Rel (k + 4) u v) v v1) u v1 := by
  obtain ⟨N, K, R, B, S, T, D, G, A, L, rfl, rfl, ok⟩ := I
  have J : i_Rel (k + 4) (N, K, R, B, S, T, D, G, A, L) (N, K, R, B, S, T, L, D, G, A) := rt_rel ok
  unfold wpX_denied
  dsimp only
  unfold wpY_denied
  dsimp only
  rcases pk_ix v1 (n := 4) (by decide) with h | h | ⟨m, hm, rfl⟩
  · exact rx_me0 (Or.inl h) (br_t rfl (ry_me0 (Or.inl h) (br_f ra_10 ⟨rfl, J⟩)))
  · exact rx_me0 (Or.inr h) (br_t rfl (ry_me0 (Or.inr h) (br_f ra_10 ⟨rfl, J⟩)))
  · exact rx_me1 hm (br_f ra_10 ⟨rx_in hm, ry_me1 hm (br_t rfl ⟨rx_in hm, rfl, J⟩)⟩)
theorem i_vc_time {k : Nat} {u : SX} {v : SY} (I : i_Rel k u v) (hk : k + 4 ≤ 2048) : wpX_time (fun r => wpY_time (fun r' => r' = r ∧ i_Rel (k + 4) u v) v) u := by
  obtain ⟨N, K, R, B, S, T, D, G, A, L, rfl, rfl, ok⟩ := I
  exact ⟨rfl, rt_rel ok⟩
end
