section
variable {N : Int32} {K R B S T D G A L : Nat → Int32}
theorem rx_cl {m : Nat} (hm : m < 4) : (nI m).toNatClampNeg = m := nI_clamp (by omega)
theorem rx_in {m : Nat} (hm : m < 4) : vp_in (nI m) 4 := vp_in_nI hm (by omega)
theorem rx_ix (m i : Nat) : nI m * 10 + nI i = nI (m * 10 + i) := by rw [ra_m10, nI_add]
theorem rx_xin {m i : Nat} (hm : m < 4) (hi : i < 10) : vp_in (nI m * 10 + nI i) 40 := by
  rw [rx_ix]
  exact vp_in_nI (by omega) (by omega)
theorem rx_xcl {m i : Nat} (hm : m < 4) (hi : i < 10) : (nI m * 10 + nI i).toNatClampNeg = m * 10 + i := by
  rw [rx_ix]
  exact nI_clamp (by omega)
theorem rx_yin {m : Nat} (hm : m < 4) : vp_in (nI m * 10) 40 := by
  rw [ra_m10]
  exact vp_in_nI (by omega) (by omega)
theorem rx_ycl {m : Nat} (hm : m < 4) : (nI m * 10).toNatClampNeg = m * 10 := by
  rw [ra_m10]
  exact nI_clamp (by omega)
theorem ra_10 : ¬ (1 : Int32) = 0 := by decide
theorem rx_me1 {post : Int32 → Prop} {m : Nat} (hm : m < 4) (h : post 1) : wpX_isMeter post (nI m) := br_f (nI_pos (by omega)) (br_f (nI_ge (b := 4) hm (by decide)) h)
theorem rx_me0 {post : Int32 → Prop} {x : Int32} (hx : x < 0 ∨ nI 4 ≤ x) (h : post 0) : wpX_isMeter post x := by
  by_cases g : x < 0
  · exact br_t g h
  · exact br_f g (br_t (hx.resolve_left g) h)
theorem rx_co1 {post : Int32 → Prop} {c : Nat} (h1 : 1 ≤ c) (h2 : c ≤ 20) (h : post 1) : wpX_isCost post (nI c) := br_f (nI_nlt (a := c) (b := 1) h1 (by omega)) (br_f (nI_nlt (a := 20) (b := c) h2 (by decide)) h)
theorem rx_co0 {post : Int32 → Prop} {x : Int32} (hx : x < 1 ∨ 20 < x) (h : post 0) : wpX_isCost post x := by
  by_cases g : x < 1
  · exact br_t g h
  · exact br_f g (br_t (hx.resolve_left g) h)
theorem ra_cost (x : Int32) : (x < 1 ∨ 20 < x) ∨ ∃ c : Nat, 1 ≤ c ∧ c ≤ 20 ∧ x = nI c := by
  by_cases g : x < 1
  · exact Or.inl (Or.inl g)
  · by_cases g2 : 20 < x
    · exact Or.inl (Or.inr g2)
    · have h0 : ¬ x < 0 := fun z => g (Int32.lt_trans z (by decide))
      obtain ⟨j, hj, rfl⟩ := nI_of h0
      have g' : ¬ nI j < nI 1 := g
      have g2' : ¬ nI 20 < nI j := g2
      rw [nI_ltI hj (by omega)] at g'
      rw [nI_ltI (by omega) hj] at g2'
      exact Or.inr ⟨j, by omega, by omega, rfl⟩
theorem rx_tok {post : Int32 → Prop} {m : Nat} (hm : m < 4) {w : Int32} (h : post (ra_min (T m) (R m) (B m) w)) : wpX_tokensAfter post (N, K, R, B, S, T, D, G, A, L) (nI m) w := by
  have v := rx_in hm
  unfold wpX_tokensAfter
  dsimp only
  rw [rx_cl hm]
  refine ⟨v, v, nm_e ⟨v, ?_⟩⟩
  unfold ra_min at h
  by_cases g : B m ≤ T m + R m * w
  · rw [if_pos g] at h
    exact br_t g ⟨v, h⟩
  · rw [if_neg g] at h
    exact br_f g h
theorem rx_log_lp {post : Int32 → Prop} {m : Nat} (hm : m < 4) {w : Int32} (h : post (ra_sum L (S m) w (m * 10) 10)) : ∀ d i, i + d = 10 → wX_loggedAfter_5 post (nI m) w N K R B S T D G A L (d + 1) (ra_sum L (S m) w (m * 10) i) (nI i) := by
  intro d
  induction d with
  | zero =>
    intro i hi
    obtain rfl : i = 10 := by omega
    exact br_t (nI_le (a := 10) (b := 10) (Nat.le_refl 10) (by decide)) h
  | succ d ih =>
    intro i hi
    have ih := ih (i + 1) (by omega)
    rw [wX_loggedAfter_5]
    dsimp only
    rw [rx_cl hm, rx_xcl hm (by omega)]
    refine br_f (nI_ge (b := 10) (by omega) (by decide)) ⟨rx_in hm, ?_⟩
    by_cases g : S m ≤ nI i + w
    · have e : ra_sum L (S m) w (m * 10) (i + 1) = ra_sum L (S m) w (m * 10) i := if_pos g
      rw [e] at ih
      exact br_t g (nm_r (nI_1 i) ih)
    · have e : ra_sum L (S m) w (m * 10) (i + 1) = ra_sum L (S m) w (m * 10) i + L (m * 10 + i) := if_neg g
      exact br_f g ⟨rx_xin hm (by omega), nm_r e.symm (nm_r (nI_1 i) ih)⟩
theorem rx_log {post : Int32 → Prop} {m : Nat} (hm : m < 4) {w : Int32} (h : post (ra_sum L (S m) w (m * 10) 10)) : wpX_loggedAfter post (N, K, R, B, S, T, D, G, A, L) (nI m) w := ⟨11, rx_log_lp hm h 10 0 rfl⟩
theorem rx_sta {post : Int32 → Prop} {m : Nat} (hm : m < 4) {y : Int32} (h : post (ra_st (D m) y)) : wpX_startAt post (N, K, R, B, S, T, D, G, A, L) (nI m) y := by
  have v := rx_in hm
  unfold wpX_startAt
  dsimp only
  rw [rx_cl hm]
  unfold ra_st at h
  by_cases g : D m ≤ y
  · rw [if_pos g] at h
    exact ⟨v, br_t g h⟩
  · rw [if_neg g] at h
    exact ⟨v, br_f g ⟨v, h⟩⟩
theorem rx_wd {post : Int32 → Prop} {m : Nat} (hm : m < 4) {c w : Int32} (h1 : ra_W N K R B S T D L m c w = true → post 1) (h0 : ra_W N K R B S T D L m c w = false → post 0) : wpX_wouldGrant post (N, K, R, B, S, T, D, G, A, L) (nI m) c w := by
  have v := rx_in hm
  unfold ra_W at h1 h0
  unfold wpX_wouldGrant
  dsimp only
  rw [rx_cl hm]
  by_cases k0 : K m = 0
  · rw [ra_wd0 k0, ra_bt] at h1
    rw [ra_wd0 k0, ra_bf] at h0
    exact ⟨v, br_t k0 (rx_tok hm (br_c h0 h1))⟩
  · by_cases k1 : K m = 1
    · rw [ra_wd1 k0 k1, ra_bt] at h1
      rw [ra_wd1 k0 k1, ra_bf] at h0
      exact ⟨v, br_f k0 ⟨v, br_t k1 (rx_log hm ⟨v, br_c h0 h1⟩)⟩⟩
    · rw [ra_wd2 k0 k1, ra_bt] at h1
      rw [ra_wd2 k0 k1, ra_bf] at h0
      exact ⟨v, br_f k0 ⟨v, br_f k1 (nm_e ⟨v, nm_e (rx_sta hm ⟨v, br_c h0 h1⟩)⟩)⟩⟩
theorem rx_gr {post : SX → Prop} {m : Nat} (hm : m < 4) {c : Int32} (h : post (N, K, R, B, S, ra_gT K T m c, ra_gD N K S D m c, upd G m (G m + c), A, ra_gL K L m c)) : wpX_grant post (N, K, R, B, S, T, D, G, A, L) (nI m) c := by
  have v := rx_in hm
  have v2 := rx_yin hm
  unfold wpX_grant
  dsimp only
  rw [rx_cl hm, rx_ycl hm]
  refine ⟨v, v, nm_e ⟨v, ?_⟩⟩
  unfold ra_gT ra_gD ra_gL at h
  by_cases k0 : K m = 0
  · rw [if_pos k0, if_pos k0, if_pos k0] at h
    exact br_t k0 ⟨v, v, nm_e h⟩
  · rw [if_neg k0, if_neg k0, if_neg k0] at h
    by_cases k1 : K m = 1
    · rw [if_pos k1, if_pos k1] at h
      exact br_f k0 ⟨v, br_t k1 ⟨v2, v2, nm_e h⟩⟩
    · rw [if_neg k1, if_neg k1] at h
      exact br_f k0 ⟨v, br_f k1 (rx_sta hm ⟨v, v, nm_e h⟩)⟩
theorem rx_mk_lp {post : SX → Prop} {m : Nat} (hm : m < 4) (h : post (N, K, R, B, S, T, D, G, A, ra_z L (m * 10) 10)) : ∀ d i, i + d = 10 → wX_makeAnew_63 post (nI m) N (d + 1) (nI i) K R B S T D G A (ra_z L (m * 10) i) := by
  intro d
  induction d with
  | zero =>
    intro i hi
    obtain rfl : i = 10 := by omega
    exact br_t (nI_le (a := 10) (b := 10) (Nat.le_refl 10) (by decide)) h
  | succ d ih =>
    intro i hi
    have ih := ih (i + 1) (by omega)
    rw [wX_makeAnew_63]
    dsimp only
    rw [rx_xcl hm (by omega)]
    exact br_f (nI_ge (b := 10) (by omega) (by decide)) ⟨rx_xin hm (by omega), nm_r (e' := ra_z L (m * 10) (i + 1)) rfl (nm_r (nI_1 i) ih)⟩
theorem rx_mk {post : SX → Prop} {m : Nat} (hm : m < 4) {k r b s : Int32} (h : post (N, upd K m k, upd R m r, upd B m b, upd S m s, upd T m b, upd D m (-1000000), upd G m 0, upd A m 0, ra_z L (m * 10) 10)) : wpX_makeAnew post (N, K, R, B, S, T, D, G, A, L) (nI m) k r b s := by
  have v := rx_in hm
  unfold wpX_makeAnew
  dsimp only
  rw [rx_cl hm]
  exact ⟨v, nm_e ⟨v, nm_e ⟨v, nm_e ⟨v, nm_e ⟨v, nm_e ⟨v, nm_e ⟨v, nm_e ⟨v, nm_e ⟨11, rx_mk_lp hm h 10 0 rfl⟩⟩⟩⟩⟩⟩⟩⟩⟩
theorem rx_init {post : SX → Prop} (h : post (0, ra_cn (fun _ => 0) 0 4, ra_cn (fun _ => 0) 1 4, ra_cn (fun _ => 0) 10 4, ra_cn (fun _ => 0) 1 4, ra_cn (fun _ => 0) 10 4, ra_cn (fun _ => 0) (-1000000) 4, ra_cn (fun _ => 0) 0 4, ra_cn (fun _ => 0) 0 4, ra_zl (fun _ => 0) 4)) : wpX_init post := by
  have lp : ∀ d i, i + d = 4 → wX_init_75 post (d + 1) (nI i) 0 (ra_cn (fun _ => 0) 0 i) (ra_cn (fun _ => 0) 1 i) (ra_cn (fun _ => 0) 10 i) (ra_cn (fun _ => 0) 1 i) (ra_cn (fun _ => 0) 10 i) (ra_cn (fun _ => 0) (-1000000) i) (ra_cn (fun _ => 0) 0 i) (ra_cn (fun _ => 0) 0 i) (ra_zl (fun _ => 0) i) := by
    intro d
    induction d with
    | zero =>
      intro i hi
      obtain rfl : i = 4 := by omega
      exact br_t (nI_le (a := 4) (b := 4) (Nat.le_refl 4) (by decide)) h
    | succ d ih =>
      intro i hi
      have ih := ih (i + 1) (by omega)
      rw [wX_init_75]
      dsimp only
      exact br_f (nI_ge (b := 4) (by omega) (by decide)) (rx_mk (by omega) (nm_r (nI_1 i) ih))
  exact ⟨5, lp 4 0 rfl⟩
theorem rx_is {post : Int32 → Prop} {s : Int32} {i : Nat} (h1 : ra_in s i = true → post 1) (h0 : ¬ ra_in s i = true → post 0) : wpX_isInSet post s (nI i) := br_c (fun g => h1 (decide_eq_true g)) (fun g => h0 (fun z => g (of_decide_eq_true z)))
theorem rx_aa2 {post : Int32 → SX → Prop} {s c : Int32} (h : post 1 (N, K, R, B, S, (ra_gs N K S (ra_in s) c T D G L 4).1, (ra_gs N K S (ra_in s) c T D G L 4).2.1, (ra_gs N K S (ra_in s) c T D G L 4).2.2.1, A, (ra_gs N K S (ra_in s) c T D G L 4).2.2.2)) : ∀ d i, i + d = 4 → wX_askAll_69 post s c (d + 1) (nI i) N K R B S (ra_gs N K S (ra_in s) c T D G L i).1 (ra_gs N K S (ra_in s) c T D G L i).2.1 (ra_gs N K S (ra_in s) c T D G L i).2.2.1 A (ra_gs N K S (ra_in s) c T D G L i).2.2.2 := by
  intro d
  induction d with
  | zero =>
    intro i hi
    obtain rfl : i = 4 := by omega
    exact br_t (nI_le (a := 4) (b := 4) (Nat.le_refl 4) (by decide)) h
  | succ d ih =>
    intro i hi
    have ih := ih (i + 1) (by omega)
    rw [wX_askAll_69]
    dsimp only
    refine br_f (nI_ge (b := 4) (by omega) (by decide)) (rx_is (fun g => ?_) (fun g => ?_))
    · rw [ra_gs_t g] at ih
      exact br_f ra_10 (rx_gr (by omega) (nm_r (nI_1 i) ih))
    · rw [ra_gs_f g] at ih
      exact br_t rfl (nm_r (nI_1 i) ih)
def ra_p (N : Int32) (K R B S T D L : Nat → Int32) (s c : Int32) (i : Nat) : Bool := ra_in s i && !ra_W N K R B S T D L i c 0
theorem ra_p_t {s c : Int32} {i : Nat} (g : ra_in s i = true) (w : ra_W N K R B S T D L i c 0 = false) : ra_p N K R B S T D L s c i = true := by
  unfold ra_p
  rw [g, w]
  rfl
theorem ra_p_f {s c : Int32} {i : Nat} (w : ra_W N K R B S T D L i c 0 = true) : ¬ ra_p N K R B S T D L s c i = true := by
  unfold ra_p
  rw [w]
  cases ra_in s i <;> decide
theorem ra_p_g {s c : Int32} {i : Nat} (g : ¬ ra_in s i = true) : ¬ ra_p N K R B S T D L s c i = true := by
  unfold ra_p
  intro z
  rw [Bool.and_eq_true] at z
  exact g z.1
theorem ra_p_w {s c : Int32} {i : Nat} (g : ra_in s i = true) (h : ¬ ra_p N K R B S T D L s c i = true) : ra_W N K R B S T D L i c 0 = true := by
  by_cases w : ra_W N K R B S T D L i c 0 = true
  · exact w
  · exact absurd (ra_p_t g (Bool.eq_false_iff.mpr w)) h
theorem rx_aa1 {post : Int32 → SX → Prop} {s c : Int32} (h0 : ra_al (ra_p N K R B S T D L s c) 4 = 0 → post 0 (N, K, R, B, S, T, D, G, ra_dn (ra_p N K R B S T D L s c) A 4, L)) (h1 : ¬ ra_al (ra_p N K R B S T D L s c) 4 = 0 → post 1 (N, K, R, B, S, (ra_gs N K S (ra_in s) c T D G L 4).1, (ra_gs N K S (ra_in s) c T D G L 4).2.1, (ra_gs N K S (ra_in s) c T D G L 4).2.2.1, ra_dn (ra_p N K R B S T D L s c) A 4, (ra_gs N K S (ra_in s) c T D G L 4).2.2.2)) : ∀ d i, i + d = 4 → wX_askAll_15 post s c N (d + 1) (ra_al (ra_p N K R B S T D L s c) i) (nI i) K R B S T D G (ra_dn (ra_p N K R B S T D L s c) A i) L := by
  intro d
  induction d with
  | zero =>
    intro i hi
    obtain rfl : i = 4 := by omega
    exact br_t (nI_le (a := 4) (b := 4) (Nat.le_refl 4) (by decide)) (br_c h0 (fun g => ⟨5, rx_aa2 (T := T) (D := D) (G := G) (L := L) (h1 g) 4 0 rfl⟩))
  | succ d ih =>
    intro i hi
    have ih := ih (i + 1) (by omega)
    have i4 : i < 4 := by omega
    rw [wX_askAll_15]
    dsimp only
    rw [rx_cl i4]
    refine br_f (nI_ge (b := 4) i4 (by decide)) (rx_is (fun g => ?_) (fun g => ?_))
    · refine br_f ra_10 (rx_wd i4 (fun w => ?_) (fun w => ?_))
      · rw [ra_dn_f (ra_p_f w), ra_al_f (ra_p_f w)] at ih
        exact br_f ra_10 (nm_r (nI_1 i) ih)
      · rw [ra_dn_t (ra_p_t g w), ra_al_t (ra_p_t g w)] at ih
        exact br_t rfl ⟨rx_in i4, rx_in i4, nm_e (nm_r (nI_1 i) ih)⟩
    · rw [ra_dn_f (ra_p_g g), ra_al_f (ra_p_g g)] at ih
      exact br_t rfl (nm_r (nI_1 i) ih)
theorem rx_aa {post : Int32 → SX → Prop} {s : Int32} {c : Nat} (hc1 : 1 ≤ c) (hc : c ≤ 20) (h0 : ra_al (ra_p N K R B S T D L s (nI c)) 4 = 0 → post 0 (N, K, R, B, S, T, D, G, ra_dn (ra_p N K R B S T D L s (nI c)) A 4, L)) (h1 : ¬ ra_al (ra_p N K R B S T D L s (nI c)) 4 = 0 → post 1 (N, K, R, B, S, (ra_gs N K S (ra_in s) (nI c) T D G L 4).1, (ra_gs N K S (ra_in s) (nI c) T D G L 4).2.1, (ra_gs N K S (ra_in s) (nI c) T D G L 4).2.2.1, ra_dn (ra_p N K R B S T D L s (nI c)) A 4, (ra_gs N K S (ra_in s) (nI c) T D G L 4).2.2.2)) : wpX_askAll post (N, K, R, B, S, T, D, G, A, L) s (nI c) := by
  unfold wpX_askAll
  dsimp only
  exact rx_co1 hc1 hc (br_f ra_10 ⟨5, rx_aa1 h0 h1 4 0 rfl⟩)
/-! the log grows older -/
def ra_pv : Nat → Int32
  | 0 => -1
  | k + 1 => nI k
theorem ra_pv_m1 (k : Nat) : nI k + (-1) = ra_pv k := by
  cases k with
  | zero => decide
  | succ k => exact pk_m1 k
theorem ra_ag_t {b u d k : Nat} (hk : 9 - d = k) (g : u ≤ k) : ra_ag L b u (d + 1) = upd (ra_ag L b u d) (b + k) (ra_ag L b u d (b + k - u)) := by
  show upd (ra_ag L b u d) (b + (9 - d)) (if u ≤ 9 - d then ra_ag L b u d (b + (9 - d) - u) else 0) = _
  rw [hk, if_pos g]
theorem ra_ag_f {b u d k : Nat} (hk : 9 - d = k) (g : ¬ u ≤ k) : ra_ag L b u (d + 1) = upd (ra_ag L b u d) (b + k) 0 := by
  show upd (ra_ag L b u d) (b + (9 - d)) (if u ≤ 9 - d then ra_ag L b u d (b + (9 - d) - u) else 0) = _
  rw [hk, if_neg g]
theorem rx_ag_lp {post : SX → Prop} {b u : Nat} (hb : b + 10 ≤ 40) (hu : u ≤ 1000) (h : post (N, K, R, B, S, T, D, G, A, ra_ag L b u 10)) : ∀ k d, d + k = 10 → wX_ageLog_9 post (nI u) (nI b) N (k + 1) (ra_pv k) K R B S T D G A (ra_ag L b u d) := by
  intro k
  induction k with
  | zero =>
    intro d hd
    obtain rfl : d = 10 := by omega
    exact br_t (show (-1 : Int32) < 0 by decide) h
  | succ k ih =>
    intro d hd
    have ih := ih (d + 1) (by omega)
    have e9 : 9 - d = k := by omega
    rw [wX_ageLog_9]
    dsimp only
    show (nI k < 0 → _) ∧ (¬ nI k < 0 → _)
    refine br_f (nI_pos (by omega)) ?_
    by_cases g : u ≤ k
    · rw [ra_ag_t e9 g] at ih
      have e1 : nI b + nI k = nI (b + k) := nI_add b k
      have e2 : nI b + nI k - nI u = nI (b + k - u) := by rw [nI_add, pk_sub (by omega)]
      refine br_f (nI_nlt g (by omega)) ⟨?_, ?_, nm_r ?_ (nm_r (ra_pv_m1 k) ih)⟩
      · show vp_in (nI b + nI k - nI u) 40
        rw [e2]
        exact vp_in_nI (by omega) (by omega)
      · show vp_in (nI b + nI k) 40
        rw [e1]
        exact vp_in_nI (by omega) (by omega)
      · show upd _ (nI b + nI k).toNatClampNeg (ra_ag L b u d (nI b + nI k - nI u).toNatClampNeg) = _
        rw [e2, e1, nI_clamp (by omega), nI_clamp (by omega)]
    · rw [ra_ag_f e9 g] at ih
      have e1 : nI b + nI k = nI (b + k) := nI_add b k
      refine br_t (nI_lt (by omega) (by omega)) ⟨?_, nm_r ?_ (nm_r (ra_pv_m1 k) ih)⟩
      · show vp_in (nI b + nI k) 40
        rw [e1]
        exact vp_in_nI (by omega) (by omega)
      · show upd _ (nI b + nI k).toNatClampNeg 0 = _
        rw [e1, nI_clamp (by omega)]
theorem rx_ag {post : SX → Prop} {m u : Nat} (hm : m < 4) (hu : u ≤ 1000) (h : post (N, K, R, B, S, T, D, G, A, ra_ag L (m * 10) u 10)) : wpX_ageLog post (N, K, R, B, S, T, D, G, A, L) (nI m) (nI u) := by
  unfold wpX_ageLog
  dsimp only
  exact nm_r (ra_m10 m) ⟨11, rx_ag_lp (by omega) hu h 10 0 rfl⟩
theorem rx_ps_lp {post : Int32 → SX → Prop} {u : Nat} (hu : u ≤ 1000) (h : post N (N, K, R, B, S, ra_pT R B T (nI u) 4, D, G, A, ra_pL L u 4)) : ∀ d i, i + d = 4 → wX_pass_40 post (nI u) (d + 1) (nI i) N K R B S (ra_pT R B T (nI u) i) D G A (ra_pL L u i) := by
  intro d
  induction d with
  | zero =>
    intro i hi
    obtain rfl : i = 4 := by omega
    exact br_t (nI_le (a := 4) (b := 4) (Nat.le_refl 4) (by decide)) h
  | succ d ih =>
    intro i hi
    have ih := ih (i + 1) (by omega)
    have i4 : i < 4 := by omega
    rw [wX_pass_40]
    dsimp only
    rw [rx_cl i4]
    exact br_f (nI_ge (b := 4) i4 (by decide)) (rx_tok i4 ⟨rx_in i4, nm_e (rx_ag i4 hu (nm_r (nI_1 i) ih))⟩)
end
