section
variable {N : Int32} {K R B S T D G A L : Nat → Int32}
theorem ry_me1 {post : Int32 → Prop} {m : Nat} (hm : m < 4) (h : post 0) : wpY_bad post (N, K, R, B, S, T, L, D, G, A) (nI m) := br_f (nI_pos (by omega)) (br_t (nI_le (b := 3) (by omega) (by decide)) h)
theorem ry_me0 {post : Int32 → Prop} {x : Int32} (hx : x < 0 ∨ nI 4 ≤ x) (h : post 1) : wpY_bad post (N, K, R, B, S, T, L, D, G, A) x := by
  unfold wpY_bad
  dsimp only
  by_cases g : x < 0
  · exact br_t g h
  · refine br_f g (br_f (fun z => ?_) h)
    exact absurd (Int32.le_trans (hx.resolve_left g) z) (by decide)
theorem ry_co1 {post : Int32 → Prop} {c : Nat} (h1 : 1 ≤ c) (h2 : c ≤ 20) (h : post 0) : wpY_badCost post (N, K, R, B, S, T, L, D, G, A) (nI c) := br_f (nI_nlt (a := c) (b := 1) h1 (by omega)) (br_t (nI_le (b := 20) h2 (by decide)) h)
theorem ry_co0 {post : Int32 → Prop} {x : Int32} (hx : x < 1 ∨ 20 < x) (h : post 1) : wpY_badCost post (N, K, R, B, S, T, L, D, G, A) x := by
  unfold wpY_badCost
  dsimp only
  by_cases g : x < 1
  · exact br_t g h
  · exact br_f g (br_f (Int32.not_le.mpr (hx.resolve_left g)) h)
theorem ry_tok {post : Int32 → Prop} {m : Nat} (hm : m < 4) {n w : Nat} (hM : ra_M (R m) (B m) (S m) (T m) (D m) n) (hw : w ≤ 1000) (h : post (ra_min (T m) (R m) (B m) (nI w))) : wpY_tokensIn post (N, K, R, B, S, T, L, D, G, A) (nI m) (nI w) := by
  have v := rx_in hm
  obtain ⟨r, b, s, t, ⟨hr1, hr, hb1, hb2, hs1, hs, ht⟩, eR, eB, eS, eT, hd, hd2⟩ := hM
  have h2 : post (nI (ra_mn (t + r * w) b)) := by
    rw [eR, eB, eT, ra_min_n (by omega) hr hb2 hw] at h
    exact h
  have lp : ∀ d i, i + d = w → wY_tokensIn_10 post (nI m) (nI w) N K R B S T L D G A (d + 1) (nI (ra_mn (t + r * i) b)) (nI i) := by
    intro d
    induction d with
    | zero =>
      intro i hi
      obtain rfl : i = w := by omega
      exact br_t (nI_le (Nat.le_refl i) (by omega)) h2
    | succ d ih =>
      intro i hi
      have ih := ih (i + 1) (by omega)
      have b1 := ra_mn_le (t + r * i) b
      rw [wY_tokensIn_10]
      dsimp only
      rw [rx_cl hm, eR, eB, nI_add]
      refine br_f (nI_ge (by omega) (by omega)) ⟨v, v, ?_⟩
      rcases ra_stp t r b i with ⟨a1, a2⟩ | ⟨a1, a2⟩
      · rw [a2] at ih
        exact br_f (nI_ge a1 (by omega)) ⟨v, nm_e (nm_r (nI_1 i) ih)⟩
      · rw [a2] at ih
        exact br_t (nI_le a1 (by omega)) ⟨v, nm_e (nm_r (nI_1 i) ih)⟩
  have e0 : T m = nI (ra_mn (t + r * 0) b) := by
    rw [Nat.mul_zero, Nat.add_zero, ra_mn_c ht]
    exact eT
  unfold wpY_tokensIn
  dsimp only
  rw [rx_cl hm]
  exact ⟨v, nm_r e0 ⟨w + 1, lp w 0 (by omega)⟩⟩
theorem ry_log_lp {post : Int32 → Prop} {m : Nat} (hm : m < 4) {w : Int32} (h : post (ra_sum L (S m) w (m * 10) 10)) : ∀ d i, i + d = 10 → wY_loggedIn_5 post (nI m) w N K R B S T L D G A (d + 1) (ra_sum L (S m) w (m * 10) i) (nI i) := by
  intro d
  induction d with
  | zero =>
    intro i hi
    obtain rfl : i = 10 := by omega
    exact br_t (nI_le (a := 10) (b := 10) (Nat.le_refl 10) (by decide)) h
  | succ d ih =>
    intro i hi
    have ih := ih (i + 1) (by omega)
    rw [wY_loggedIn_5]
    dsimp only
    rw [rx_cl hm, rx_xcl hm (by omega)]
    refine br_f (nI_ge (b := 10) (by omega) (by decide)) ⟨rx_in hm, ?_⟩
    by_cases g : S m ≤ nI i + w
    · have e : ra_sum L (S m) w (m * 10) (i + 1) = ra_sum L (S m) w (m * 10) i := if_pos g
      rw [e] at ih
      exact br_t g (nm_r (nI_1 i) ih)
    · have e : ra_sum L (S m) w (m * 10) (i + 1) = ra_sum L (S m) w (m * 10) i + L (m * 10 + i) := if_neg g
      exact br_f g ⟨rx_xin hm (by omega), nm_r e.symm (nm_r (nI_1 i) ih)⟩
theorem ry_log {post : Int32 → Prop} {m : Nat} (hm : m < 4) {w : Int32} (h : post (ra_sum L (S m) w (m * 10) 10)) : wpY_loggedIn post (N, K, R, B, S, T, L, D, G, A) (nI m) w := ⟨11, ry_log_lp hm h 10 0 rfl⟩
theorem ry_wd {post : Int32 → Prop} {m : Nat} (hm : m < 4) {n w : Nat} (hM : ra_M (R m) (B m) (S m) (T m) (D m) n) (hw : w ≤ 1000) {c : Int32} (h1 : ra_W N K R B S T D L m c (nI w) = true → post 1) (h0 : ra_W N K R B S T D L m c (nI w) = false → post 0) : wpY_would post (N, K, R, B, S, T, L, D, G, A) (nI m) c (nI w) := by
  have v := rx_in hm
  unfold ra_W at h1 h0
  unfold wpY_would
  dsimp only
  rw [rx_cl hm]
  by_cases k0 : K m = 0
  · rw [ra_wd0 k0, ra_bt] at h1
    rw [ra_wd0 k0, ra_bf] at h0
    exact ⟨v, br_t k0 (ry_tok hm hM hw (br_c h0 h1))⟩
  · by_cases k1 : K m = 1
    · rw [ra_wd1 k0 k1, ra_bt, Int32.add_comm] at h1
      rw [ra_wd1 k0 k1, ra_bf, Int32.add_comm] at h0
      exact ⟨v, br_f k0 ⟨v, br_t k1 (ry_log hm ⟨v, br_c h0 h1⟩)⟩⟩
    · rw [ra_wd2 k0 k1, ra_bt] at h1
      rw [ra_wd2 k0 k1, ra_bf] at h0
      unfold ra_st at h1 h0
      refine ⟨v, br_f k0 ⟨v, br_f k1 (nm_e ⟨v, ?_⟩)⟩⟩
      by_cases g : D m ≤ N + nI w
      · rw [if_pos g] at h1 h0
        refine br_t g ?_
        unfold wY_would_88
        rw [rx_cl hm]
        exact ⟨v, v, v, br_c h0 h1⟩
      · rw [if_neg g] at h1 h0
        refine br_f g ⟨v, ?_⟩
        unfold wY_would_88
        rw [rx_cl hm]
        exact ⟨v, v, v, br_c h0 h1⟩
theorem ry_wd0 {post : Int32 → Prop} {m : Nat} (hm : m < 4) {n : Nat} (hM : ra_M (R m) (B m) (S m) (T m) (D m) n) {c : Int32} (h1 : ra_W N K R B S T D L m c 0 = true → post 1) (h0 : ra_W N K R B S T D L m c 0 = false → post 0) : wpY_would post (N, K, R, B, S, T, L, D, G, A) (nI m) c 0 := ry_wd (w := 0) hm hM (by omega) h1 h0
theorem ry_gr {post : SY → Prop} {m : Nat} (hm : m < 4) {c : Int32} (h : post (N, K, R, B, S, ra_gT K T m c, ra_gL K L m c, ra_gD N K S D m c, upd G m (G m + c), A)) : wpY_grant post (N, K, R, B, S, T, L, D, G, A) (nI m) c := by
  have v := rx_in hm
  have v2 := rx_yin hm
  unfold wpY_grant
  dsimp only
  rw [rx_cl hm, rx_ycl hm]
  refine ⟨v, v, nm_e ⟨v, ?_⟩⟩
  unfold ra_gT ra_gD ra_gL at h
  by_cases k0 : K m = 0
  · rw [if_pos k0, if_pos k0, if_pos k0] at h
    exact br_t k0 ⟨v, v, nm_e h⟩
  · rw [if_neg k0, if_neg k0, if_neg k0] at h
    by_cases k1 : K m = 1
    · rw [if_pos k1, if_pos k1] at h
      exact br_f k0 ⟨v, br_t k1 ⟨v2, v2, nm_e h⟩⟩
    · rw [if_neg k1, if_neg k1] at h
      unfold ra_st at h
      refine br_f k0 ⟨v, br_f k1 ⟨v, ?_⟩⟩
      by_cases g : D m ≤ N
      · rw [if_pos g] at h
        refine br_t g ?_
        unfold wY_grant_99
        rw [rx_cl hm]
        exact ⟨v, v, nm_e h⟩
      · rw [if_neg g] at h
        refine br_f g ⟨v, ?_⟩
        unfold wY_grant_99
        rw [rx_cl hm]
        exact ⟨v, v, nm_e h⟩
theorem ry_mk_lp {post : SY → Prop} {m : Nat} (hm : m < 4) (h : post (N, K, R, B, S, T, ra_z L (m * 10) 10, upd D m (-1000000), upd G m 0, upd A m 0)) : ∀ d i, i + d = 10 → wY_make_41 post (nI m) N (d + 1) (nI i) K R B S T (ra_z L (m * 10) i) D G A := by
  have v := rx_in hm
  intro d
  induction d with
  | zero =>
    intro i hi
    obtain rfl : i = 10 := by omega
    rw [wY_make_41]
    dsimp only
    rw [rx_cl hm]
    exact br_t (nI_le (a := 10) (b := 10) (Nat.le_refl 10) (by decide)) ⟨v, nm_e ⟨v, nm_e ⟨v, nm_e h⟩⟩⟩
  | succ d ih =>
    intro i hi
    have ih := ih (i + 1) (by omega)
    rw [wY_make_41]
    dsimp only
    rw [rx_xcl hm (by omega)]
    exact br_f (nI_ge (b := 10) (by omega) (by decide)) ⟨rx_xin hm (by omega), nm_r (e' := ra_z L (m * 10) (i + 1)) rfl (nm_r (nI_1 i) ih)⟩
theorem ry_mk {post : SY → Prop} {m : Nat} (hm : m < 4) {k r b s : Int32} (h : post (N, upd K m k, upd R m r, upd B m b, upd S m s, upd T m b, ra_z L (m * 10) 10, upd D m (-1000000), upd G m 0, upd A m 0)) : wpY_make post (N, K, R, B, S, T, L, D, G, A) (nI m) k r b s := by
  have v := rx_in hm
  unfold wpY_make
  dsimp only
  rw [rx_cl hm]
  exact ⟨v, nm_e ⟨v, nm_e ⟨v, nm_e ⟨v, nm_e ⟨v, nm_e ⟨11, ry_mk_lp hm h 10 0 rfl⟩⟩⟩⟩⟩⟩
theorem ry_init {post : SY → Prop} (h : post (0, ra_cn (fun _ => 0) 0 4, ra_cn (fun _ => 0) 1 4, ra_cn (fun _ => 0) 10 4, ra_cn (fun _ => 0) 1 4, ra_cn (fun _ => 0) 10 4, ra_zl (fun _ => 0) 4, ra_cn (fun _ => 0) (-1000000) 4, ra_cn (fun _ => 0) 0 4, ra_cn (fun _ => 0) 0 4)) : wpY_init post := by
  have lp : ∀ d i, i + d = 4 → wY_init_70 post (d + 1) (nI i) 0 (ra_cn (fun _ => 0) 0 i) (ra_cn (fun _ => 0) 1 i) (ra_cn (fun _ => 0) 10 i) (ra_cn (fun _ => 0) 1 i) (ra_cn (fun _ => 0) 10 i) (ra_zl (fun _ => 0) i) (ra_cn (fun _ => 0) (-1000000) i) (ra_cn (fun _ => 0) 0 i) (ra_cn (fun _ => 0) 0 i) := by
    intro d
    induction d with
    | zero =>
      intro i hi
      obtain rfl : i = 4 := by omega
      exact br_t (nI_le (a := 4) (b := 4) (Nat.le_refl 4) (by decide)) h
    | succ d ih =>
      intro i hi
      have ih := ih (i + 1) (by omega)
      rw [wY_init_70]
      dsimp only
      exact br_f (nI_ge (b := 4) (by omega) (by decide)) (ry_mk (by omega) (nm_r (nI_1 i) ih))
  exact ⟨5, lp 4 0 rfl⟩
theorem ry_is {P Q : Prop} {s : Int32} {i : Nat} (h1 : ra_in s i = true → P) (h0 : ¬ ra_in s i = true → Q) : (((s >>> (nI i &&& 31)) &&& 1) = 1 → P) ∧ (¬ ((s >>> (nI i &&& 31)) &&& 1) = 1 → Q) := br_c (fun g => h1 (decide_eq_true g)) (fun g => h0 (fun z => g (of_decide_eq_true z)))
theorem ry_aa20 {post : Int32 → SY → Prop} {s c f : Int32} (hf : f = 0) (h : post 0 (N, K, R, B, S, T, L, D, G, A)) : ∀ d i, i + d = 4 → wY_askAll_70 post s c f (d + 1) (nI i) N K R B S T L D G A := by
  intro d
  induction d with
  | zero =>
    intro i hi
    obtain rfl : i = 4 := by omega
    exact br_t (nI_le (a := 4) (b := 4) (Nat.le_refl 4) (by decide)) (br_t hf h)
  | succ d ih =>
    intro i hi
    have ih := ih (i + 1) (by omega)
    exact br_f (nI_ge (b := 4) (by omega) (by decide)) (br_t hf (nm_r (nI_1 i) ih))
theorem ry_aa2 {post : Int32 → SY → Prop} {s c f : Int32} (hf : ¬ f = 0) (h : post 1 (N, K, R, B, S, (ra_gs N K S (ra_in s) c T D G L 4).1, (ra_gs N K S (ra_in s) c T D G L 4).2.2.2, (ra_gs N K S (ra_in s) c T D G L 4).2.1, (ra_gs N K S (ra_in s) c T D G L 4).2.2.1, A)) : ∀ d i, i + d = 4 → wY_askAll_70 post s c f (d + 1) (nI i) N K R B S (ra_gs N K S (ra_in s) c T D G L i).1 (ra_gs N K S (ra_in s) c T D G L i).2.2.2 (ra_gs N K S (ra_in s) c T D G L i).2.1 (ra_gs N K S (ra_in s) c T D G L i).2.2.1 A := by
  intro d
  induction d with
  | zero =>
    intro i hi
    obtain rfl : i = 4 := by omega
    exact br_t (nI_le (a := 4) (b := 4) (Nat.le_refl 4) (by decide)) (br_f hf h)
  | succ d ih =>
    intro i hi
    have ih := ih (i + 1) (by omega)
    rw [wY_askAll_70]
    dsimp only
    refine br_f (nI_ge (b := 4) (by omega) (by decide)) (br_f hf (ry_is (fun g => ?_) (fun g => ?_)))
    · rw [ra_gs_t g] at ih
      exact ry_gr (by omega) (nm_r (nI_1 i) ih)
    · rw [ra_gs_f g] at ih
      exact nm_r (nI_1 i) ih
theorem ry_aa1 {post : Int32 → SY → Prop} {s c : Int32} {n : Nat} (hM : ra_Ms R B S T D n) (h0 : ra_al (ra_p N K R B S T D L s c) 4 = 0 → post 0 (N, K, R, B, S, T, L, D, G, ra_dn (ra_p N K R B S T D L s c) A 4)) (h1 : ¬ ra_al (ra_p N K R B S T D L s c) 4 = 0 → post 1 (N, K, R, B, S, (ra_gs N K S (ra_in s) c T D G L 4).1, (ra_gs N K S (ra_in s) c T D G L 4).2.2.2, (ra_gs N K S (ra_in s) c T D G L 4).2.1, (ra_gs N K S (ra_in s) c T D G L 4).2.2.1, ra_dn (ra_p N K R B S T D L s c) A 4)) : ∀ d i, i + d = 4 → wY_askAll_16 post s c N (d + 1) (ra_al (ra_p N K R B S T D L s c) i) (nI i) K R B S T L D G (ra_dn (ra_p N K R B S T D L s c) A i) := by
  intro d
  induction d with
  | zero =>
    intro i hi
    obtain rfl : i = 4 := by omega
    refine br_t (nI_le (a := 4) (b := 4) (Nat.le_refl 4) (by decide)) ?_
    by_cases g : ra_al (ra_p N K R B S T D L s c) 4 = 0
    · exact ⟨5, ry_aa20 g (h0 g) 4 0 rfl⟩
    · exact ⟨5, ry_aa2 (T := T) (D := D) (G := G) (L := L) g (h1 g) 4 0 rfl⟩
  | succ d ih =>
    intro i hi
    have ih := ih (i + 1) (by omega)
    have i4 : i < 4 := by omega
    rw [wY_askAll_16]
    dsimp only
    rw [rx_cl i4]
    refine br_f (nI_ge (b := 4) i4 (by decide)) (ry_is (fun g => ?_) (fun g => ?_))
    · refine ry_wd0 i4 (hM i i4) (fun w => ?_) (fun w => ?_)
      · rw [ra_dn_f (ra_p_f w), ra_al_f (ra_p_f w)] at ih
        exact br_f ra_10 (nm_r (nI_1 i) ih)
      · rw [ra_dn_t (ra_p_t g w), ra_al_t (ra_p_t g w)] at ih
        exact br_t rfl ⟨rx_in i4, rx_in i4, nm_e (nm_r (nI_1 i) ih)⟩
    · rw [ra_dn_f (ra_p_g g), ra_al_f (ra_p_g g)] at ih
      exact nm_r (nI_1 i) ih
theorem ry_aa {post : Int32 → SY → Prop} {s : Int32} {c n : Nat} (hM : ra_Ms R B S T D n) (hc1 : 1 ≤ c) (hc : c ≤ 20) (h0 : ra_al (ra_p N K R B S T D L s (nI c)) 4 = 0 → post 0 (N, K, R, B, S, T, L, D, G, ra_dn (ra_p N K R B S T D L s (nI c)) A 4)) (h1 : ¬ ra_al (ra_p N K R B S T D L s (nI c)) 4 = 0 → post 1 (N, K, R, B, S, (ra_gs N K S (ra_in s) (nI c) T D G L 4).1, (ra_gs N K S (ra_in s) (nI c) T D G L 4).2.2.2, (ra_gs N K S (ra_in s) (nI c) T D G L 4).2.1, (ra_gs N K S (ra_in s) (nI c) T D G L 4).2.2.1, ra_dn (ra_p N K R B S T D L s (nI c)) A 4)) : wpY_askAll post (N, K, R, B, S, T, L, D, G, A) s (nI c) := by
  unfold wpY_askAll
  dsimp only
  exact ry_co1 hc1 hc (br_t rfl ⟨5, ry_aa1 hM h0 h1 4 0 rfl⟩)
theorem ry_ag_lp {post : Int32 → SY → Prop} {J : Int32 → (Nat → Int32) → (Nat → Int32) → (Nat → Int32) → (Nat → Int32) → (Nat → Int32) → (Nat → Int32) → (Nat → Int32) → (Nat → Int32) → (Nat → Int32) → Prop} {m u : Nat} (hm : m < 4) (hu : u ≤ 1000) (h : J (nI (m + 1)) K R B S T (ra_ag L (m * 10) u 10) D G A) : ∀ k d, d + k = 10 → wY_pass_60 post J (nI u) (nI m) N (k + 1) (ra_pv k) K R B S T (ra_ag L (m * 10) u d) D G A := by
  intro k
  induction k with
  | zero =>
    intro d hd
    obtain rfl : d = 10 := by omega
    exact br_t (show (-1 : Int32) < 0 by decide) (nm_r (nI_1 m) h)
  | succ k ih =>
    intro d hd
    have ih := ih (d + 1) (by omega)
    have e9 : 9 - d = k := by omega
    rw [wY_pass_60]
    dsimp only
    show (nI k < 0 → _) ∧ (¬ nI k < 0 → _)
    refine br_f (nI_pos (by omega)) ?_
    by_cases g : u ≤ k
    · rw [ra_ag_t e9 g] at ih
      have e1 : nI m * 10 + nI k = nI (m * 10 + k) := rx_ix m k
      have e2 : nI m * 10 + nI k - nI u = nI (m * 10 + k - u) := by rw [rx_ix, pk_sub (by omega)]
      refine br_f (nI_nlt g (by omega)) ⟨?_, ?_, nm_r ?_ (nm_r (ra_pv_m1 k) ih)⟩
      · show vp_in (nI m * 10 + nI k - nI u) 40
        rw [e2]
        exact vp_in_nI (by omega) (by omega)
      · show vp_in (nI m * 10 + nI k) 40
        rw [e1]
        exact vp_in_nI (by omega) (by omega)
      · show upd _ (nI m * 10 + nI k).toNatClampNeg (ra_ag L (m * 10) u d (nI m * 10 + nI k - nI u).toNatClampNeg) = _
        rw [e2, e1, nI_clamp (by omega), nI_clamp (by omega)]
    · rw [ra_ag_f e9 g] at ih
      have e1 : nI m * 10 + nI k = nI (m * 10 + k) := rx_ix m k
      refine br_t (nI_lt (by omega) (by omega)) ⟨?_, nm_r ?_ (nm_r (ra_pv_m1 k) ih)⟩
      · show vp_in (nI m * 10 + nI k) 40
        rw [e1]
        exact vp_in_nI (by omega) (by omega)
      · show upd _ (nI m * 10 + nI k).toNatClampNeg 0 = _
        rw [e1, nI_clamp (by omega)]
theorem ry_ps_lp {post : Int32 → SY → Prop} {u n : Nat} (hu : u ≤ 1000) (hM : ra_Ms R B S T D n) (h : post N (N, K, R, B, S, ra_pT R B T (nI u) 4, ra_pL L u 4, D, G, A)) : ∀ d i, i + d = 4 → wY_pass_40 post (nI u) N (d + 1) (nI i) K R B S (ra_pT R B T (nI u) i) (ra_pL L u i) D G A := by
  intro d
  induction d with
  | zero =>
    intro i hi
    obtain rfl : i = 4 := by omega
    exact br_t (nI_le (a := 4) (b := 4) (Nat.le_refl 4) (by decide)) h
  | succ d ih =>
    intro i hi
    have ih := ih (i + 1) (by omega)
    have i4 : i < 4 := by omega
    rw [wY_pass_40]
    dsimp only
    rw [rx_cl i4]
    exact br_f (nI_ge (b := 4) i4 (by decide)) (ry_tok i4 (ra_pT_g hM hu i (by omega) i i4) hu ⟨rx_in i4, nm_e ⟨11, ry_ag_lp i4 hu ih 10 0 rfl⟩⟩)
end
