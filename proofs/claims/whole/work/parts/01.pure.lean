/-! rows of the kit's own PURE-ROWS, pasted -/
theorem pk_us {f : Nat → Int32} {k : Nat} {x : Int32} : upd f k x k = x := if_pos rfl
theorem pk_un {f : Nat → Int32} {k j : Nat} {x : Int32} (h : j ≠ k) : upd f k x j = f j := if_neg h
theorem pk_sub {a b : Nat} (h : b ≤ a) : nI a - nI b = nI (a - b) := by
  obtain ⟨c, rfl⟩ : ∃ c, a = c + b := ⟨a - b, by omega⟩
  rw [← nI_add, Int32.add_sub_cancel, Nat.add_sub_cancel]
theorem pk_m1 (n : Nat) : nI (n + 1) + (-1) = nI n := by
  rw [← nI_1, Int32.add_assoc, show (1 : Int32) + (-1) = 0 from rfl, Int32.add_zero]
theorem pk_mul (a b : Nat) : nI a * nI b = nI (a * b) := (Int32.ofNat_mul a b).symm
theorem pk_ix (x : Int32) {n : Nat} (hn : n < 2 ^ 31) : x < 0 ∨ nI n ≤ x ∨ ∃ j : Nat, j < n ∧ x = nI j := by
  by_cases h : x < 0
  · exact Or.inl h
  · obtain ⟨j, hj, rfl⟩ := nI_of h
    by_cases h2 : j < n
    · exact Or.inr (Or.inr ⟨j, h2, rfl⟩)
    · exact Or.inr (Or.inl (nI_le (by omega) hj))
theorem pk_le {x y : Int32} {A B : Prop} (a b : Nat) (f : a ≤ b → A) (g : b < a → B) (hx : x = nI a := by rfl) (hy : y = nI b := by rfl) (ha : a < 2 ^ 31 := by omega) (hb : b < 2 ^ 31 := by omega) : (x ≤ y → A) ∧ (¬ x ≤ y → B) := by
  subst hx hy
  rw [nI_leI ha hb]
  exact ⟨f, fun z => g (by omega)⟩
theorem pk_lt {x y : Int32} {A B : Prop} (a b : Nat) (f : a < b → A) (g : b ≤ a → B) (hx : x = nI a := by rfl) (hy : y = nI b := by rfl) (ha : a < 2 ^ 31 := by omega) (hb : b < 2 ^ 31 := by omega) : (x < y → A) ∧ (¬ x < y → B) := by
  subst hx hy
  rw [nI_ltI ha hb]
  exact ⟨f, fun z => g (by omega)⟩
theorem pk_eq {x y : Int32} {A B : Prop} (a b : Nat) (f : a = b → A) (g : a ≠ b → B) (hx : x = nI a := by rfl) (hy : y = nI b := by rfl) (ha : a < 2 ^ 31 := by omega) (hb : b < 2 ^ 31 := by omega) : (x = y → A) ∧ (¬ x = y → B) := by
  subst hx hy
  rw [nI_eq ha hb]
  exact ⟨f, g⟩
theorem pk_in {x : Int32} (n N : Nat) (h : n < N) (hx : x = nI n := by rfl) (hN : N < 2 ^ 31 := by omega) : vp_in x N := by
  subst hx
  exact vp_in_nI h hN
theorem pk_cl {x : Int32} (n : Nat) (hx : x = nI n := by rfl) (h : n < 2 ^ 31 := by omega) : x.toNatClampNeg = n := by
  subst hx
  exact nI_clamp h
theorem pk_tn {n : Nat} (h : n < 2 ^ 32) : (nI n).toBitVec.toNat = n := Nat.mod_eq_of_lt h
theorem pk_and (x : Int32) {m : Int32} (k : Nat) (hm : m.toBitVec.toNat = 2 ^ k - 1) : x &&& m = nI (x.toBitVec.toNat % 2 ^ k) := by
  apply Int32.toBitVec_inj.mp
  apply BitVec.eq_of_toNat_eq
  rw [Int32.toBitVec_and, BitVec.toNat_and, hm, Nat.and_two_pow_sub_one_eq_mod]
  show _ = (BitVec.ofNat 32 _).toNat
  rw [BitVec.toNat_ofNat]
  exact (Nat.mod_eq_of_lt (Nat.lt_of_le_of_lt (Nat.mod_le _ _) x.toBitVec.isLt)).symm
theorem pk_andE (x : Int32) {m : Int32} (k : Nat) (hm : m.toBitVec.toNat = 2 ^ k - 1) : ∃ j : Nat, j < 2 ^ k ∧ x &&& m = nI j := ⟨_, Nat.mod_lt _ (Nat.two_pow_pos k), pk_and x k hm⟩
/-! arithmetic over Int32 without overflow -/
theorem ra_add {x y : Int32} {a b : Int} (hx : x.toInt = a) (hy : y.toInt = b) (h1 : -2147483648 ≤ a + b) (h2 : a + b < 2147483648) : (x + y).toInt = a + b := by
  rw [Int32.toInt_add, hx, hy]
  exact Int.bmod_eq_of_le (by omega) (by omega)
theorem ra_sbt {x y : Int32} {a b : Int} (hx : x.toInt = a) (hy : y.toInt = b) (h1 : -2147483648 ≤ a - b) (h2 : a - b < 2147483648) : (x - y).toInt = a - b := by
  rw [Int32.toInt_sub, hx, hy]
  exact Int.bmod_eq_of_le (by omega) (by omega)
theorem ra_m10 (m : Nat) : nI m * 10 = nI (m * 10) := pk_mul m 10
/-! a loop that counts up, one that counts down -/
theorem ra_lp (W : Nat → Nat → Prop) (e : Nat) (hx : ∀ n, W (n + 1) e) (hs : ∀ n i, i < e → W n (i + 1) → W (n + 1) i) : ∀ d i, i + d = e → W (d + 1) i := by
  intro d
  induction d with
  | zero =>
    intro i hi
    obtain rfl : i = e := by omega
    exact hx 0
  | succ d ih =>
    intro i hi
    exact hs (d + 1) i (by omega) (ih (i + 1) (by omega))
theorem ra_lp0 (W : Nat → Nat → Prop) (e : Nat) (hx : ∀ n, W (n + 1) e) (hs : ∀ n i, i < e → W n (i + 1) → W (n + 1) i) : ∃ n, W n 0 := ⟨e + 1, ra_lp W e hx hs e 0 (by omega)⟩
/-! the bucket: tokens after w units -/
def ra_min (T R B w : Int32) : Int32 := if B ≤ T + R * w then B else T + R * w
def ra_mn (a b : Nat) : Nat := if a < b then a else b
theorem ra_mn_le (a b : Nat) : ra_mn a b ≤ b := by
  unfold ra_mn
  split <;> omega
theorem ra_mn_a (a b : Nat) : ra_mn a b ≤ a := by
  unfold ra_mn
  split <;> omega
theorem ra_mn_b {a b : Nat} (h : b ≤ a) : ra_mn a b = b := if_neg (by omega)
theorem ra_mn_c {a b : Nat} (h : a ≤ b) : ra_mn a b = a := by
  unfold ra_mn
  split <;> omega
theorem ra_stp (t r b i : Nat) : (b < ra_mn (t + r * i) b + r ∧ ra_mn (t + r * (i + 1)) b = b) ∨ (ra_mn (t + r * i) b + r ≤ b ∧ ra_mn (t + r * (i + 1)) b = ra_mn (t + r * i) b + r) := by
  rw [Nat.mul_succ]
  generalize r * i = z
  unfold ra_mn
  split <;> split <;> omega
theorem ra_min_n {t r b w : Nat} (ht : t ≤ 30) (hr : r ≤ 5) (hb : b ≤ 30) (hw : w ≤ 1000) : ra_min (nI t) (nI r) (nI b) (nI w) = nI (ra_mn (t + r * w) b) := by
  have h : r * w ≤ 5000 := Nat.mul_le_mul hr hw
  unfold ra_min
  rw [pk_mul, nI_add]
  generalize r * w = z at h
  by_cases g : b ≤ t + z
  · rw [if_pos ((nI_leI (by omega) (by omega)).mpr g), ra_mn_b g]
  · rw [if_neg (fun y => g ((nI_leI (by omega) (by omega)).mp y)), ra_mn_c (by omega)]
/-! the log: what still counts after w units -/
def ra_sum (L : Nat → Int32) (S w : Int32) (b : Nat) : Nat → Int32
  | 0 => 0
  | i + 1 => if S ≤ nI i + w then ra_sum L S w b i else ra_sum L S w b i + L (b + i)
def ra_Lg (L : Nat → Int32) : Prop := ∀ j, j < 40 → ∃ e : Nat, e ≤ 30 ∧ L j = nI e
theorem ra_Lg_u {L : Nat → Int32} (h : ra_Lg L) (k e : Nat) (he : e ≤ 30) : ra_Lg (upd L k (nI e)) := by
  intro j hj
  by_cases g : j = k
  · exact ⟨e, he, by rw [g, pk_us]⟩
  · rw [pk_un g]
    exact h j hj
theorem ra_Lg_c {L : Nat → Int32} (h : ra_Lg L) (k j : Nat) (hj : j < 40) : ra_Lg (upd L k (L j)) := by
  obtain ⟨e, he, eq⟩ := h j hj
  rw [eq]
  exact ra_Lg_u h k e he
theorem ra_sum_c {L M : Nat → Int32} (S w : Int32) (b : Nat) (h : ∀ i, i < 10 → L (b + i) = M (b + i)) : ∀ i, i ≤ 10 → ra_sum L S w b i = ra_sum M S w b i := by
  intro i
  induction i with
  | zero => intro _; rfl
  | succ i ih =>
    intro hi
    show (if S ≤ nI i + w then ra_sum L S w b i else ra_sum L S w b i + L (b + i)) = (if S ≤ nI i + w then ra_sum M S w b i else ra_sum M S w b i + M (b + i))
    rw [ih (by omega), h i (by omega)]
theorem ra_sum_n {L : Nat → Int32} (h : ra_Lg L) (S w : Int32) {b : Nat} (hb : b + 10 ≤ 40) : ∀ i, i ≤ 10 → ∃ s : Nat, s ≤ 30 * i ∧ ra_sum L S w b i = nI s := by
  intro i
  induction i with
  | zero => intro _; exact ⟨0, by omega, rfl⟩
  | succ i ih =>
    intro hi
    obtain ⟨s, hs, es⟩ := ih (by omega)
    obtain ⟨e, he, ee⟩ := h (b + i) (by omega)
    show ∃ z : Nat, z ≤ 30 * (i + 1) ∧ (if S ≤ nI i + w then ra_sum L S w b i else ra_sum L S w b i + L (b + i)) = nI z
    by_cases g : S ≤ nI i + w
    · rw [if_pos g]
      exact ⟨s, by omega, es⟩
    · rw [if_neg g, es, ee, nI_add]
      exact ⟨s + e, by omega, rfl⟩
theorem ra_sum_0 (L : Nat → Int32) {s w : Nat} (hs : s ≤ 10) (hw : w ≤ 1000) (h : s ≤ w) (b : Nat) : ∀ i, i ≤ 10 → ra_sum L (nI s) (nI w) b i = 0 := by
  intro i
  induction i with
  | zero => intro _; rfl
  | succ i ih =>
    intro hi
    show (if nI s ≤ nI i + nI w then ra_sum L (nI s) (nI w) b i else ra_sum L (nI s) (nI w) b i + L (b + i)) = 0
    rw [nI_add, if_pos (nI_le (by omega) (by omega))]
    exact ih (by omega)
theorem ra_sum_1 {L : Nat → Int32} (h : ra_Lg L) {s : Nat} (h1 : 1 ≤ s) (hs : s ≤ 10) {b e : Nat} (hb : b + 10 ≤ 40) (he : e ≤ 30) (ee : L b = nI e) : ∀ i, i < 10 → ∃ z : Nat, z ≤ 30 * (i + 1) ∧ e ≤ z ∧ ra_sum L (nI s) 0 b (i + 1) = nI z := by
  intro i
  induction i with
  | zero =>
    intro _
    refine ⟨e, by omega, Nat.le_refl e, ?_⟩
    show (if nI s ≤ nI 0 + nI 0 then nI 0 else nI 0 + L (b + 0)) = nI e
    rw [nI_add, if_neg (nI_ge (by omega) (by omega)), Nat.add_zero, ee, nI_add, Nat.zero_add]
  | succ i ih =>
    intro hi
    obtain ⟨z, hz, hez, eq⟩ := ih (by omega)
    obtain ⟨e2, he2, ee2⟩ := h (b + (i + 1)) (by omega)
    show ∃ y : Nat, y ≤ 30 * (i + 1 + 1) ∧ e ≤ y ∧ (if nI s ≤ nI (i + 1) + 0 then ra_sum L (nI s) 0 b (i + 1) else ra_sum L (nI s) 0 b (i + 1) + L (b + (i + 1))) = nI y
    by_cases g : nI s ≤ nI (i + 1) + 0
    · rw [if_pos g]
      exact ⟨z, by omega, hez, eq⟩
    · rw [if_neg g, eq, ee2, nI_add]
      exact ⟨z + e2, by omega, by omega, rfl⟩
/-! the spacer -/
def ra_st (D N : Int32) : Int32 := if D ≤ N then N else D
theorem ra_spv {D : Int32} {n w c s : Nat} (hd : -1000000 ≤ D.toInt) (hd2 : D.toInt ≤ (n : Int) + 300) (hn : n ≤ 100000) (hw : w ≤ 300) (hc : c ≤ 20) (hs : s ≤ 10) : ∃ z : Int, (z = (n : Int) + w ∨ z = D.toInt) ∧ (n : Int) + w ≤ z ∧ D.toInt ≤ z ∧ (ra_st D (nI n + nI w) + nI c * nI s).toInt = z + ((c * s : Nat) : Int) ∧ (ra_st D (nI n + nI w) + nI c * nI s - (nI n + nI w)).toInt = z + ((c * s : Nat) : Int) - ((n : Int) + w) := by
  have hcs : c * s ≤ 200 := Nat.mul_le_mul hc hs
  have e1 : (nI n + nI w).toInt = (n : Int) + w := by
    rw [nI_add, nI_toInt (by omega)]
    omega
  have e2 : (nI c * nI s).toInt = ((c * s : Nat) : Int) := by rw [pk_mul, nI_toInt (by omega)]
  generalize c * s = q at *
  generalize nI n + nI w = y at *
  generalize nI c * nI s = p at *
  by_cases g : D ≤ y
  · have g' : D.toInt ≤ y.toInt := Int32.le_iff_toInt_le.mp g
    have e3 : (y + p).toInt = (n : Int) + w + (q : Int) := ra_add e1 e2 (by omega) (by omega)
    refine ⟨(n : Int) + w, Or.inl rfl, by omega, by omega, ?_, ?_⟩
    · rw [ra_st, if_pos g]
      exact e3
    · rw [ra_st, if_pos g]
      exact ra_sbt e3 e1 (by omega) (by omega)
  · have g' : y.toInt < D.toInt := Int32.lt_iff_toInt_lt.mp (Int32.not_le.mp g)
    have e3 : (D + p).toInt = D.toInt + (q : Int) := ra_add rfl e2 (by omega) (by omega)
    refine ⟨D.toInt, Or.inr rfl, by omega, by omega, ?_, ?_⟩
    · rw [ra_st, if_neg g]
      exact e3
    · rw [ra_st, if_neg g]
      exact ra_sbt e3 e1 (by omega) (by omega)
/-! would a meter grant a cost, w units from now -/
def ra_wd (K R B S T D Q N c w : Int32) : Bool :=
  if K = 0 then !decide (ra_min T R B w < c) else if K = 1 then !decide (B < c + Q) else !decide (B * S < ra_st D (N + w) + c * S - (N + w))
theorem ra_wd0 {K R B S T D Q N c w : Int32} (h : K = 0) : ra_wd K R B S T D Q N c w = !decide (ra_min T R B w < c) := if_pos h
theorem ra_wd1 {K R B S T D Q N c w : Int32} (h : ¬ K = 0) (h1 : K = 1) : ra_wd K R B S T D Q N c w = !decide (B < c + Q) := by rw [ra_wd, if_neg h, if_pos h1]
theorem ra_wd2 {K R B S T D Q N c w : Int32} (h : ¬ K = 0) (h1 : ¬ K = 1) : ra_wd K R B S T D Q N c w = !decide (B * S < ra_st D (N + w) + c * S - (N + w)) := by rw [ra_wd, if_neg h, if_neg h1]
theorem ra_bt {p : Prop} (i : Decidable p) : (!@decide p i) = true ↔ ¬ p := by
  by_cases h : p
  · simp [h]
  · simp [h]
theorem ra_bf {p : Prop} (i : Decidable p) : (!@decide p i) = false ↔ p := by
  by_cases h : p
  · simp [h]
  · simp [h]
def ra_W (N : Int32) (K R B S T D L : Nat → Int32) (m : Nat) (c w : Int32) : Bool := ra_wd (K m) (R m) (B m) (S m) (T m) (D m) (ra_sum L (S m) w (m * 10) 10) N c w
/-! what a meter keeps to -/
def ra_M (R B S T D : Int32) (n : Nat) : Prop := ∃ r b s t : Nat, (1 ≤ r ∧ r ≤ 5 ∧ 1 ≤ b ∧ b ≤ 30 ∧ 1 ≤ s ∧ s ≤ 10 ∧ t ≤ b) ∧ R = nI r ∧ B = nI b ∧ S = nI s ∧ T = nI t ∧ -1000000 ≤ D.toInt ∧ D.toInt ≤ (n : Int) + 300
def ra_Ms (R B S T D : Nat → Int32) (n : Nat) : Prop := ∀ m, m < 4 → ra_M (R m) (B m) (S m) (T m) (D m) n
def ra_ok (N : Int32) (R B S T D L : Nat → Int32) : Prop := ∃ n : Nat, n ≤ 100000 ∧ N = nI n ∧ ra_Ms R B S T D n ∧ ra_Lg L
theorem ra_never {N : Int32} {K R B S T D L : Nat → Int32} (h : ra_ok N R B S T D L) {m c w : Nat} (hm : m < 4) (hc : c ≤ 20) (hw : w ≤ 300) (hb : ¬ nI c ≤ B m) : ra_W N K R B S T D L m (nI c) (nI w) = false := by
  obtain ⟨n, hn, rfl, hM, hL⟩ := h
  obtain ⟨r, b, s, t, ⟨hr1, hr, hb1, hb2, hs1, hs, ht⟩, eR, eB, eS, eT, hd, hd2⟩ := hM m hm
  rw [eB, nI_leI (by omega) (by omega)] at hb
  unfold ra_W
  by_cases k0 : K m = 0
  · rw [ra_wd0 k0, ra_bf, eR, eB, eT, ra_min_n (by omega) hr hb2 (by omega)]
    have := ra_mn_le (t + r * w) b
    exact nI_lt (by omega) (by omega)
  · by_cases k1 : K m = 1
    · obtain ⟨q, hq, eq⟩ := ra_sum_n hL (S m) (nI w) (b := m * 10) (by omega) 10 (Nat.le_refl 10)
      rw [ra_wd1 k0 k1, ra_bf, eB, eq, nI_add]
      exact nI_lt (by omega) (by omega)
    · obtain ⟨z, hz, hz1, hz2, ez, ez2⟩ := ra_spv (c := c) (s := s) hd hd2 hn hw hc hs
      rw [ra_wd2 k0 k1, ra_bf, eB, eS, Int32.lt_iff_toInt_lt, ez2, pk_mul]
      have h1 : (b + 1) * s ≤ c * s := Nat.mul_le_mul_right s (by omega)
      have h2 : (b + 1) * s = b * s + s := Nat.succ_mul b s
      have h3 : b * s ≤ 300 := Nat.mul_le_mul hb2 hs
      rw [nI_toInt (by omega)]
      omega
theorem ra_once {N : Int32} {K R B S T D L : Nat → Int32} (h : ra_ok N R B S T D L) {m c : Nat} (hm : m < 4) (hc : c ≤ 20) (hb : nI c ≤ B m) : ra_W N K R B S T D L m (nI c) (nI 300) = true := by
  obtain ⟨n, hn, rfl, hM, hL⟩ := h
  obtain ⟨r, b, s, t, ⟨hr1, hr, hb1, hb2, hs1, hs, ht⟩, eR, eB, eS, eT, hd, hd2⟩ := hM m hm
  rw [eB, nI_leI (by omega) (by omega)] at hb
  unfold ra_W
  by_cases k0 : K m = 0
  · rw [ra_wd0 k0, ra_bt, eR, eB, eT, ra_min_n (by omega) hr hb2 (by omega), ra_mn_b (by omega)]
    exact nI_nlt hb (by omega)
  · by_cases k1 : K m = 1
    · rw [ra_wd1 k0 k1, ra_bt, eB, eS, ra_sum_0 L hs (by omega) (by omega) (m * 10) 10 (Nat.le_refl 10)]
      show ¬ nI b < nI c + nI 0
      rw [nI_add]
      exact nI_nlt (by omega) (by omega)
    · obtain ⟨z, hz, hz1, hz2, ez, ez2⟩ := ra_spv (w := 300) (c := c) (s := s) hd hd2 hn (Nat.le_refl 300) hc hs
      rw [ra_wd2 k0 k1, ra_bt, eB, eS, Int32.lt_iff_toInt_lt, ez2, pk_mul]
      have h1 : c * s ≤ b * s := Nat.mul_le_mul_right s hb
      have h3 : b * s ≤ 300 := Nat.mul_le_mul hb2 hs
      rw [nI_toInt (by omega)]
      omega
/-! a grant -/
def ra_gT (K T : Nat → Int32) (m : Nat) (c : Int32) : Nat → Int32 := if K m = 0 then upd T m (T m - c) else T
def ra_gL (K L : Nat → Int32) (m : Nat) (c : Int32) : Nat → Int32 := if K m = 0 then L else if K m = 1 then upd L (m * 10) (L (m * 10) + c) else L
def ra_gD (N : Int32) (K S D : Nat → Int32) (m : Nat) (c : Int32) : Nat → Int32 := if K m = 0 then D else if K m = 1 then D else upd D m (ra_st (D m) N + c * S m)
theorem ra_gT_n {K T : Nat → Int32} {m j : Nat} {c : Int32} (h : j ≠ m) : ra_gT K T m c j = T j := by
  unfold ra_gT
  split
  · exact pk_un h
  · rfl
theorem ra_gD_n {N : Int32} {K S D : Nat → Int32} {m j : Nat} {c : Int32} (h : j ≠ m) : ra_gD N K S D m c j = D j := by
  unfold ra_gD
  split
  · rfl
  · split
    · rfl
    · exact pk_un h
theorem ra_gL_n {K L : Nat → Int32} {m j : Nat} {c : Int32} (h : j ≠ m * 10) : ra_gL K L m c j = L j := by
  unfold ra_gL
  split
  · rfl
  · split
    · exact pk_un h
    · rfl
theorem ra_gW {N : Int32} {K R B S T D L : Nat → Int32} {m j : Nat} (h : j ≠ m) (c : Int32) : ra_W N K R B S (ra_gT K T m c) (ra_gD N K S D m c) (ra_gL K L m c) j c 0 = ra_W N K R B S T D L j c 0 := by
  unfold ra_W
  rw [ra_gT_n h, ra_gD_n h, ra_sum_c (L := ra_gL K L m c) (M := L) (S j) 0 (j * 10) (fun i hi => ra_gL_n (by omega)) 10 (Nat.le_refl 10)]
theorem ra_gok {N : Int32} {K R B S T D L : Nat → Int32} (h : ra_ok N R B S T D L) {m c : Nat} (hm : m < 4) (hc1 : 1 ≤ c) (hc : c ≤ 20) (hw : ra_W N K R B S T D L m (nI c) 0 = true) : ra_ok N R B S (ra_gT K T m (nI c)) (ra_gD N K S D m (nI c)) (ra_gL K L m (nI c)) := by
  obtain ⟨n, hn, rfl, hM, hL⟩ := h
  have hM' := hM m hm
  obtain ⟨r, b, s, t, hb, eR, eB, eS, eT, hd, hd2⟩ := hM'
  obtain ⟨hr1, hr, hb1, hb2, hs1, hs, ht⟩ := hb
  unfold ra_W at hw
  refine ⟨n, hn, rfl, fun j hj => ?_, ?_⟩
  · by_cases g : j = m
    · subst g
      by_cases k0 : K j = 0
      · rw [ra_wd0 k0, ra_bt, eR, eB, eT] at hw
        have e := ra_min_n (t := t) (r := r) (b := b) (w := 0) (by omega) hr hb2 (by omega)
        have hw2 : ¬ ra_min (nI t) (nI r) (nI b) (nI 0) < nI c := hw
        have a1 := ra_mn_a (t + r * 0) b
        rw [e, nI_ltI (by omega) (by omega)] at hw2
        refine ⟨r, b, s, t - c, ⟨hr1, hr, hb1, hb2, hs1, hs, by omega⟩, eR, eB, eS, ?_, ?_⟩
        · rw [ra_gT, if_pos k0, pk_us, eT, pk_sub (by omega)]
        · rw [ra_gD, if_pos k0]
          exact ⟨hd, hd2⟩
      · by_cases k1 : K j = 1
        · refine ⟨r, b, s, t, ⟨hr1, hr, hb1, hb2, hs1, hs, ht⟩, eR, eB, eS, ?_, ?_⟩
          · rw [ra_gT, if_neg k0]
            exact eT
          · rw [ra_gD, if_neg k0, if_pos k1]
            exact ⟨hd, hd2⟩
        · rw [ra_wd2 k0 k1, ra_bt, eB, eS] at hw
          obtain ⟨z, hz, hz1, hz2, ez, ez2⟩ := ra_spv (w := 0) (c := c) (s := s) hd hd2 hn (by omega) hc hs
          have e0 : nI n + nI 0 = nI n := nI_add n 0
          have hw2 : ¬ nI b * nI s < ra_st (D j) (nI n + nI 0) + nI c * nI s - (nI n + nI 0) := hw
          have h3 : b * s ≤ 300 := Nat.mul_le_mul hb2 hs
          rw [Int32.lt_iff_toInt_lt, ez2, pk_mul, nI_toInt (by omega)] at hw2
          rw [e0] at ez
          refine ⟨r, b, s, t, ⟨hr1, hr, hb1, hb2, hs1, hs, ht⟩, eR, eB, eS, ?_, ?_⟩
          · rw [ra_gT, if_neg k0]
            exact eT
          · rw [ra_gD, if_neg k0, if_neg k1, pk_us, eS, ez]
            omega
    · rw [ra_gT_n g, ra_gD_n g]
      exact hM j hj
  · unfold ra_gL
    by_cases k0 : K m = 0
    · rw [if_pos k0]
      exact hL
    · rw [if_neg k0]
      by_cases k1 : K m = 1
      · rw [if_pos k1]
        obtain ⟨e, he, ee⟩ := hL (m * 10) (by omega)
        obtain ⟨q, hq, heq, eq⟩ := ra_sum_1 hL hs1 hs (b := m * 10) (by omega) he ee 9 (by omega)
        have eq2 : ra_sum L (nI s) 0 (m * 10) 10 = nI q := eq
        rw [ra_wd1 k0 k1, ra_bt, eB, eS, eq2, nI_add, nI_ltI (by omega) (by omega)] at hw
        rw [ee, nI_add]
        exact ra_Lg_u hL (m * 10) (e + c) (by omega)
      · rw [if_neg k1]
        exact hL
