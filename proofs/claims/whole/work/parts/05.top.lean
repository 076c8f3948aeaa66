/-! the two sides keep the same meters, within their bounds -/
def i_Rel (_ : Nat) (u : SX) (v : SY) : Prop := ∃ (N : Int32) (K R B S T D G A L : Nat → Int32), u = (N, K, R, B, S, T, D, G, A, L) ∧ v = (N, K, R, B, S, T, L, D, G, A) ∧ ra_ok N R B S T D L
theorem rt_rel {k : Nat} {N : Int32} {K R B S T D G A L : Nat → Int32} (h : ra_ok N R B S T D L) : i_Rel k (N, K, R, B, S, T, D, G, A, L) (N, K, R, B, S, T, L, D, G, A) := ⟨N, K, R, B, S, T, D, G, A, L, rfl, rfl, h⟩
theorem i_up {k : Nat} {u : SX} {v : SY} (h : i_Rel k u v) : i_Rel (k + 4) u v := h
theorem i_vc0 : wpX_init (fun u => wpY_init (fun v => i_Rel 0 u v)) := rx_init (ry_init (rt_rel (ra_ok0 _ _ _ _ _)))
section
variable {N : Int32} {K R B S T D G A L : Nat → Int32}
theorem ry_set {post : Int32 → SY → Prop} {m : Nat} (hm : m < 4) {v2 v3 : Int32} (h : (v2 < 0 → post (-2) (N, K, R, B, S, T, L, D, G, A)) ∧ (¬ v2 < 0 → ((v2 ≤ 2 → ((v3 &&& 7 < 1 → post (-3) (N, K, R, B, S, T, L, D, G, A)) ∧ (¬ v3 &&& 7 < 1 → ((5 < v3 &&& 7 → post (-3) (N, K, R, B, S, T, L, D, G, A)) ∧ (¬ 5 < v3 &&& 7 → (((v3 >>> ((3 : Int32) &&& 31)) &&& 31 < 1 → post (-3) (N, K, R, B, S, T, L, D, G, A)) ∧ (¬ (v3 >>> ((3 : Int32) &&& 31)) &&& 31 < 1 → ((30 < (v3 >>> ((3 : Int32) &&& 31)) &&& 31 → post (-3) (N, K, R, B, S, T, L, D, G, A)) ∧ (¬ 30 < (v3 >>> ((3 : Int32) &&& 31)) &&& 31 → (((v3 >>> ((8 : Int32) &&& 31)) &&& 15 < 1 → post (-3) (N, K, R, B, S, T, L, D, G, A)) ∧ (¬ (v3 >>> ((8 : Int32) &&& 31)) &&& 15 < 1 → (((v3 >>> ((8 : Int32) &&& 31)) &&& 15 ≤ 10 → post 0 (N, upd K m v2, upd R m (v3 &&& 7), upd B m ((v3 >>> ((3 : Int32) &&& 31)) &&& 31), upd S m ((v3 >>> ((8 : Int32) &&& 31)) &&& 15), upd T m ((v3 >>> ((3 : Int32) &&& 31)) &&& 31), ra_z L (m * 10) 10, upd D m (-1000000), upd G m 0, upd A m 0)) ∧ (¬ (v3 >>> ((8 : Int32) &&& 31)) &&& 15 ≤ 10 → post (-3) (N, K, R, B, S, T, L, D, G, A)))))))))))))) ∧ (¬ v2 ≤ 2 → post (-2) (N, K, R, B, S, T, L, D, G, A))))) : wpY_set post (N, K, R, B, S, T, L, D, G, A) (nI m) v2 v3 := by
  unfold wpY_set
  dsimp only
  refine ry_me1 hm (br_t rfl ⟨h.1, fun a => ⟨fun b => nm_e (nm_e (nm_e ?_)), (h.2 a).2⟩⟩)
  have h := (h.2 a).1 b
  refine ⟨h.1, fun c => ?_⟩
  have h := h.2 c
  refine ⟨h.1, fun c => ?_⟩
  have h := h.2 c
  refine ⟨h.1, fun c => ?_⟩
  have h := h.2 c
  refine ⟨h.1, fun c => ?_⟩
  have h := h.2 c
  refine ⟨h.1, fun c => ?_⟩
  have h := h.2 c
  exact ⟨fun c => ry_mk hm (h.1 c), h.2⟩
theorem rt_set_ok (h : ra_ok N R B S T D L) (m : Nat) {x y z : Int32} {v3 : Int32} (ex : v3 &&& 7 = x) (ey : (v3 >>> ((3 : Int32) &&& 31)) &&& 31 = y) (ez : (v3 >>> ((8 : Int32) &&& 31)) &&& 15 = z) (x1 : ¬ x < 1) (x2 : ¬ 5 < x) (y1 : ¬ y < 1) (y2 : ¬ 30 < y) (z1 : ¬ z < 1) (z2 : z ≤ 10) : ra_ok N (upd R m x) (upd B m y) (upd S m z) (upd T m y) (upd D m (-1000000)) (ra_z L (m * 10) 10) := by
  obtain ⟨r, hr, er⟩ := pk_andE v3 (m := 7) 3 (by decide)
  obtain ⟨b, hb, eb⟩ := pk_andE (v3 >>> ((3 : Int32) &&& 31)) (m := 31) 5 (by decide)
  obtain ⟨s, hs, es⟩ := pk_andE (v3 >>> ((8 : Int32) &&& 31)) (m := 15) 4 (by decide)
  rw [er] at ex
  rw [eb] at ey
  rw [es] at ez
  subst ex ey ez
  have x1' : ¬ nI r < nI 1 := x1
  have x2' : ¬ nI 5 < nI r := x2
  have y1' : ¬ nI b < nI 1 := y1
  have y2' : ¬ nI 30 < nI b := y2
  have z1' : ¬ nI s < nI 1 := z1
  have z2' : nI s ≤ nI 10 := z2
  have r8 : r < 8 := hr
  have b32 : b < 32 := hb
  have s16 : s < 16 := hs
  rw [nI_ltI (by omega) (by omega)] at x1' x2' y1' y2' z1'
  rw [nI_leI (by omega) (by omega)] at z2'
  exact ra_set_ok h m (by omega) (by omega) (by omega) (by omega) (by omega) (by omega)
end
theorem i_vc_set {k : Nat} {u : SX} {v : SY} (I : i_Rel k u v) (hk : k + 4 ≤ 2048) (v1 : Int32) (v2 : Int32) (v3 : Int32) : wpX_set (fun r u' => wpY_set (fun r' v' => r' = r ∧ i_Rel (k + 4) u' v') v v1 v2 v3) u v1 v2 v3 := by
  obtain ⟨N, K, R, B, S, T, D, G, A, L, rfl, rfl, ok⟩ := I
  have J : i_Rel (k + 4) (N, K, R, B, S, T, D, G, A, L) (N, K, R, B, S, T, L, D, G, A) := rt_rel ok
  unfold wpX_set
  dsimp only
  refine nm_e (nm_e (nm_e ?_))
  rcases pk_ix v1 (n := 4) (by decide) with h | h | ⟨m, hm, rfl⟩
  · refine rx_me0 (Or.inl h) (br_t rfl ?_)
    unfold wpY_set
    dsimp only
    exact ry_me0 (Or.inl h) (br_f ra_10 ⟨rfl, J⟩)
  · refine rx_me0 (Or.inr h) (br_t rfl ?_)
    unfold wpY_set
    dsimp only
    exact ry_me0 (Or.inr h) (br_f ra_10 ⟨rfl, J⟩)
  · refine rx_me1 hm (br_f ra_10 ?_)
    by_cases a : v2 < 0
    · exact br_t a (ry_set hm (br_t a ⟨rfl, J⟩))
    by_cases b : v2 ≤ 2
    rotate_left
    · exact br_f a (br_f b (ry_set hm (br_f a (br_f b ⟨rfl, J⟩))))
    by_cases x1 : v3 &&& 7 < 1
    · exact br_f a (br_t b (br_t x1 (ry_set hm (br_f a (br_t b (br_t x1 ⟨rfl, J⟩))))))
    by_cases x2 : 5 < v3 &&& 7
    · exact br_f a (br_t b (br_f x1 (br_t x2 (ry_set hm (br_f a (br_t b (br_f x1 (br_t x2 ⟨rfl, J⟩))))))))
    by_cases y1 : (v3 >>> ((3 : Int32) &&& 31)) &&& 31 < 1
    · exact br_f a (br_t b (br_f x1 (br_f x2 (br_t y1 (ry_set hm (br_f a (br_t b (br_f x1 (br_f x2 (br_t y1 ⟨rfl, J⟩))))))))))
    by_cases y2 : 30 < (v3 >>> ((3 : Int32) &&& 31)) &&& 31
    · exact br_f a (br_t b (br_f x1 (br_f x2 (br_f y1 (br_t y2 (ry_set hm (br_f a (br_t b (br_f x1 (br_f x2 (br_f y1 (br_t y2 ⟨rfl, J⟩))))))))))))
    by_cases z1 : (v3 >>> ((8 : Int32) &&& 31)) &&& 15 < 1
    · exact br_f a (br_t b (br_f x1 (br_f x2 (br_f y1 (br_f y2 (br_t z1 (ry_set hm (br_f a (br_t b (br_f x1 (br_f x2 (br_f y1 (br_f y2 (br_t z1 ⟨rfl, J⟩))))))))))))))
    by_cases z2 : (v3 >>> ((8 : Int32) &&& 31)) &&& 15 ≤ 10
    · exact br_f a (br_t b (br_f x1 (br_f x2 (br_f y1 (br_f y2 (br_f z1 (br_t z2 (rx_mk hm (ry_set hm (br_f a (br_t b (br_f x1 (br_f x2 (br_f y1 (br_f y2 (br_f z1 (br_t z2 ⟨rfl, rt_rel (rt_set_ok ok m rfl rfl rfl x1 x2 y1 y2 z1 z2)⟩)))))))))))))))))
    · exact br_f a (br_t b (br_f x1 (br_f x2 (br_f y1 (br_f y2 (br_f z1 (br_f z2 (ry_set hm (br_f a (br_t b (br_f x1 (br_f x2 (br_f y1 (br_f y2 (br_f z1 (br_f z2 ⟨rfl, J⟩))))))))))))))))
theorem i_vc_ask {k : Nat} {u : SX} {v : SY} (I : i_Rel k u v) (hk : k + 4 ≤ 2048) (v1 : Int32) (v2 : Int32) : wpX_ask (fun r u' => wpY_ask (fun r' v' => r' = r ∧ i_Rel (k + 4) u' v') v v1 v2) u v1 v2 := by
  obtain ⟨N, K, R, B, S, T, D, G, A, L, rfl, rfl, ok⟩ := I
  have J : i_Rel (k + 4) (N, K, R, B, S, T, D, G, A, L) (N, K, R, B, S, T, L, D, G, A) := rt_rel ok
  unfold wpX_ask
  dsimp only
  rcases pk_ix v1 (n := 4) (by decide) with h | h | ⟨m, hm, rfl⟩
  · refine rx_me0 (Or.inl h) (br_t rfl ?_)
    unfold wpY_ask
    dsimp only
    exact ry_me0 (Or.inl h) (br_f ra_10 ⟨rfl, J⟩)
  · refine rx_me0 (Or.inr h) (br_t rfl ?_)
    unfold wpY_ask
    dsimp only
    exact ry_me0 (Or.inr h) (br_f ra_10 ⟨rfl, J⟩)
  · refine rx_me1 hm (br_f ra_10 ?_)
    rcases ra_cost v2 with h | ⟨c, hc1, hc, rfl⟩
    · refine rx_co0 h (br_t rfl ?_)
      unfold wpY_ask
      dsimp only
      refine ry_me1 hm (br_t rfl ?_)
      unfold wpY_askAll
      dsimp only
      exact ry_co0 h (br_f ra_10 ⟨rfl, J⟩)
    · have v := rx_in hm
      have hM : ∃ n, ra_Ms R B S T D n := by
        obtain ⟨n, _, _, hM, _⟩ := ok
        exact ⟨n, hM⟩
      obtain ⟨n, hM⟩ := hM
      rw [rx_cl hm]
      refine rx_co1 hc1 hc (br_f ra_10 (rx_wd hm (fun w => ?_) (fun w => ?_)))
      · refine br_f ra_10 (rx_gr hm ?_)
        dsimp only
        unfold wpY_ask
        dsimp only
        have hp : ∀ i, i < 4 → ¬ ra_p N K R B S T D L ((1 : Int32) <<< (nI m &&& 31)) (nI c) i = true := by
          intro i hi
          by_cases e : i = m
          · subst e
            exact ra_p_f w
          · exact ra_p_g (fun z => e ((ra_in_one hm hi).mp z))
        obtain ⟨d1, d2⟩ := ra_none_dn (DN := A) hp 4 (Nat.le_refl 4)
        have g1 := (ra_one_gs (N := N) (K := K) (S := S) (c := nI c) (T := T) (D := D) (G := G) (L := L) (fun i hi => ra_in_one hm hi) 4 (Nat.le_refl 4)).2 hm
        refine ry_me1 hm (br_t rfl (ry_aa hM hc1 hc (fun z => ?_) (fun z => ?_)))
        · rw [d2] at z
          exact absurd z ra_10
        · rw [d1, g1]
          exact ⟨rfl, rt_rel (ra_gok ok hm hc1 hc w)⟩
      · refine br_t rfl ⟨v, v, nm_e ?_⟩
        unfold wpY_ask
        dsimp only
        have hp : ∀ i, i < 4 → (ra_p N K R B S T D L ((1 : Int32) <<< (nI m &&& 31)) (nI c) i = true ↔ i = m) := by
          intro i hi
          constructor
          · intro z
            by_cases e : ra_in ((1 : Int32) <<< (nI m &&& 31)) i = true
            · exact (ra_in_one hm hi).mp e
            · exact absurd z (ra_p_g e)
          · intro e
            subst e
            exact ra_p_t ((ra_in_one hm hi).mpr rfl) w
        obtain ⟨d1, d2⟩ := (ra_one_dn (DN := A) hp 4 (Nat.le_refl 4)).2 hm
        refine ry_me1 hm (br_t rfl (ry_aa hM hc1 hc (fun z => ?_) (fun z => ?_)))
        · rw [d1]
          exact ⟨rfl, rt_rel ok⟩
        · exact absurd d2 z
theorem i_vc_askAll {k : Nat} {u : SX} {v : SY} (I : i_Rel k u v) (hk : k + 4 ≤ 2048) (v1 : Int32) (v2 : Int32) : wpX_askAll (fun r u' => wpY_askAll (fun r' v' => r' = r ∧ i_Rel (k + 4) u' v') v v1 v2) u v1 v2 := by
  obtain ⟨N, K, R, B, S, T, D, G, A, L, rfl, rfl, ok⟩ := I
  have J : i_Rel (k + 4) (N, K, R, B, S, T, D, G, A, L) (N, K, R, B, S, T, L, D, G, A) := rt_rel ok
  rcases ra_cost v2 with h | ⟨c, hc1, hc, rfl⟩
  · unfold wpX_askAll
    dsimp only
    refine rx_co0 h (br_t rfl ?_)
    unfold wpY_askAll
    dsimp only
    exact ry_co0 h (br_f ra_10 ⟨rfl, J⟩)
  · have hM : ∃ n, ra_Ms R B S T D n := by
      obtain ⟨n, _, _, hM, _⟩ := ok
      exact ⟨n, hM⟩
    obtain ⟨n, hM⟩ := hM
    refine rx_aa hc1 hc (fun z => ry_aa hM hc1 hc (fun _ => ⟨rfl, rt_rel ok⟩) (fun z2 => absurd z z2)) (fun z => ry_aa hM hc1 hc (fun z2 => absurd z2 z) (fun _ => ⟨rfl, rt_rel ?_⟩))
    exact (ra_gsok (K := K) (G := G) ok hc1 hc (fun i hi g => ra_p_w g (ra_al_no 4 z i hi)) 4 (Nat.le_refl 4)).1
theorem i_vc_pass {k : Nat} {u : SX} {v : SY} (I : i_Rel k u v) (hk : k + 4 ≤ 2048) (v1 : Int32) : wpX_pass (fun r u' => wpY_pass (fun r' v' => r' = r ∧ i_Rel (k + 4) u' v') v v1) u v1 := by
  obtain ⟨N, K, R, B, S, T, D, G, A, L, rfl, rfl, ok⟩ := I
  have J : i_Rel (k + 4) (N, K, R, B, S, T, D, G, A, L) (N, K, R, B, S, T, L, D, G, A) := rt_rel ok
  obtain ⟨n, hn, rfl, hM, hL⟩ := ok
  unfold wpX_pass
  dsimp only
  by_cases a : v1 < 0
  · exact br_t a (br_t a ⟨rfl, J⟩)
  by_cases b : v1 ≤ 1000
  rotate_left
  · exact br_f a (br_f b (br_f a (br_f b ⟨rfl, J⟩)))
  by_cases c : nI n + v1 ≤ 100000
  rotate_left
  · exact br_f a (br_t b (br_f c (br_f a (br_t b (br_f c ⟨rfl, J⟩)))))
  obtain ⟨w, hw, rfl⟩ := nI_of2 (n := 1000) (by decide) a b
  have c' : nI n + nI w ≤ nI 100000 := c
  rw [nI_add, nI_leI (by omega) (by omega)] at c'
  refine br_f a (br_t b (br_t c (nm_r (nI_add n w) ⟨5, rx_ps_lp hw ?_ 4 0 rfl⟩)))
  refine br_f a (br_t b (br_t c (nm_r (nI_add n w) ⟨5, ry_ps_lp hw hM ?_ 4 0 rfl⟩)))
  exact ⟨rfl, rt_rel ⟨n + w, c', rfl, ra_pT_g hM hw 4 (Nat.le_refl 4), ra_pL_g hL w 4 (Nat.le_refl 4)⟩⟩
section
variable {N : Int32} {K R B S T D G A L : Nat → Int32}
theorem rt_wait (ok : ra_ok N R B S T D L) {n : Nat} (hM : ra_Ms R B S T D n) {m c : Nat} (hm : m < 4) (hc : c ≤ 20) (hb : nI c ≤ B m) : ∀ d i, i + d = 300 → ∃ r : Int32, (∀ post : Int32 → Prop, post r → wX_waitFor_34 post (nI m) (nI c) N K R B S T D G A L (d + 1) (nI i)) ∧ (∀ post : Int32 → Prop, post r → wY_waitFor_23 post (nI m) (nI c) N K R B S T L D G A (d + 1) (nI i)) := by
  intro d
  induction d with
  | zero =>
    intro i hi
    obtain rfl : i = 300 := by omega
    have w := ra_once (K := K) ok hm hc hb
    refine ⟨nI 300, fun post hp => br_t (nI_le (a := 300) (b := 300) (Nat.le_refl 300) (by decide)) hp, fun post hp => br_f (nI_nlt (a := 300) (b := 300) (Nat.le_refl 300) (by decide)) (ry_wd hm (hM m hm) (by omega) (fun _ => br_f ra_10 hp) (fun z => ?_))⟩
    rw [w] at z
    exact absurd z (by decide)
  | succ d ih =>
    intro i hi
    by_cases w : ra_W N K R B S T D L m (nI c) (nI i) = true
    · refine ⟨nI i, fun post hp => br_f (nI_ge (b := 300) (by omega) (by decide)) (rx_wd hm (fun _ => br_f ra_10 hp) (fun z => ?_)), fun post hp => br_f (nI_nlt (a := 300) (by omega) (by decide)) (ry_wd hm (hM m hm) (by omega) (fun _ => br_f ra_10 hp) (fun z => ?_))⟩
      · rw [w] at z
        exact absurd z (by decide)
      · rw [w] at z
        exact absurd z (by decide)
    · obtain ⟨r, hX, hY⟩ := ih (i + 1) (by omega)
      exact ⟨r, fun post hp => br_f (nI_ge (b := 300) (by omega) (by decide)) (rx_wd hm (fun z => absurd z w) (fun _ => br_t rfl (nm_r (nI_1 i) (hX post hp)))), fun post hp => br_f (nI_nlt (a := 300) (by omega) (by decide)) (ry_wd hm (hM m hm) (by omega) (fun z => absurd z w) (fun _ => br_t rfl (nm_r (nI_1 i) (hY post hp))))⟩
theorem rt_never (ok : ra_ok N R B S T D L) {n : Nat} (hM : ra_Ms R B S T D n) {m c : Nat} (hm : m < 4) (hc : c ≤ 20) (hb : ¬ nI c ≤ B m) {post : Int32 → Prop} (h : post (-4)) : ∀ d i, i + d = 301 → wY_waitFor_23 post (nI m) (nI c) N K R B S T L D G A (d + 1) (nI i) := by
  intro d
  induction d with
  | zero =>
    intro i hi
    obtain rfl : i = 301 := by omega
    exact br_t (nI_lt (a := 300) (b := 301) (by omega) (by decide)) h
  | succ d ih =>
    intro i hi
    have ih := ih (i + 1) (by omega)
    have w := ra_never (K := K) (w := i) ok hm hc (by omega) hb
    refine br_f (nI_nlt (a := 300) (by omega) (by decide)) (ry_wd hm (hM m hm) (by omega) (fun z => ?_) (fun _ => br_t rfl (nm_r (nI_1 i) ih)))
    rw [w] at z
    exact absurd z (by decide)
theorem rt_roomX {m : Nat} (hm : m < 4) {post : Int32 → Prop} : ∀ j, j ≤ 20 → post (nI (ra_rm (fun c => ra_W N K R B S T D L m (nI c) 0) j)) → wX_room_12 post (nI m) N K R B S T D G A L (j + 1) (nI j) := by
  intro j
  induction j with
  | zero =>
    intro _ h
    exact br_t (nI_le (a := 0) (b := 0) (Nat.le_refl 0) (by decide)) h
  | succ j ih =>
    intro hj h
    refine br_f (nI_ge (a := 0) (by omega) (by omega)) (rx_wd hm (fun w => ?_) (fun w => ?_))
    · rw [ra_rm_t (p := fun c => ra_W N K R B S T D L m (nI c) 0) w] at h
      exact br_f ra_10 h
    · have w2 : ¬ ra_W N K R B S T D L m (nI (j + 1)) 0 = true := by
        rw [w]
        decide
      rw [ra_rm_f (p := fun c => ra_W N K R B S T D L m (nI c) 0) w2] at h
      exact br_t rfl (nm_r (pk_m1 j) (ih (by omega) h))
theorem rt_roomY {n : Nat} (hM : ra_Ms R B S T D n) {m : Nat} (hm : m < 4) {post : Int32 → Prop} (h : post (nI (ra_rm (fun c => ra_W N K R B S T D L m (nI c) 0) 20))) : ∀ d i, i + d = 20 → wY_room_14 post (nI m) N K R B S T L D G A (d + 1) (nI (ra_rm (fun c => ra_W N K R B S T D L m (nI c) 0) i)) (nI (i + 1)) := by
  intro d
  induction d with
  | zero =>
    intro i hi
    obtain rfl : i = 20 := by omega
    exact br_t (nI_lt (a := 20) (b := 21) (by omega) (by decide)) h
  | succ d ih =>
    intro i hi
    have ih := ih (i + 1) (by omega)
    refine br_f (nI_nlt (a := 20) (by omega) (by decide)) (ry_wd0 hm (hM m hm) (fun w => ?_) (fun w => ?_))
    · rw [ra_rm_t (p := fun c => ra_W N K R B S T D L m (nI c) 0) w] at ih
      exact br_f ra_10 (nm_r (nI_1 (i + 1)) ih)
    · have w2 : ¬ ra_W N K R B S T D L m (nI (i + 1)) 0 = true := by
        rw [w]
        decide
      rw [ra_rm_f (p := fun c => ra_W N K R B S T D L m (nI c) 0) w2] at ih
      exact br_t rfl (nm_r (nI_1 (i + 1)) ih)
end
theorem i_vc_waitFor {k : Nat} {u : SX} {v : SY} (I : i_Rel k u v) (hk : k + 4 ≤ 2048) (v1 : Int32) (v2 : Int32) : wpX_waitFor (fun r => wpY_waitFor (fun r' => r' = r ∧ i_Rel (k + 4) u v) v v1 v2) u v1 v2 := by
  obtain ⟨N, K, R, B, S, T, D, G, A, L, rfl, rfl, ok⟩ := I
  have J : i_Rel (k + 4) (N, K, R, B, S, T, D, G, A, L) (N, K, R, B, S, T, L, D, G, A) := rt_rel ok
  unfold wpX_waitFor
  dsimp only
  unfold wpY_waitFor
  dsimp only
  rcases pk_ix v1 (n := 4) (by decide) with h | h | ⟨m, hm, rfl⟩
  · exact rx_me0 (Or.inl h) (br_t rfl (ry_me0 (Or.inl h) (br_f ra_10 ⟨rfl, J⟩)))
  · exact rx_me0 (Or.inr h) (br_t rfl (ry_me0 (Or.inr h) (br_f ra_10 ⟨rfl, J⟩)))
  · rcases ra_cost v2 with h | ⟨c, hc1, hc, rfl⟩
    · exact rx_me1 hm (br_f ra_10 (rx_co0 h (br_t rfl (ry_me1 hm (br_t rfl (ry_co0 h (br_f ra_10 ⟨rfl, J⟩)))))))
    · have hM : ∃ n, ra_Ms R B S T D n := by
        obtain ⟨n, _, _, hM, _⟩ := ok
        exact ⟨n, hM⟩
      obtain ⟨n, hM⟩ := hM
      rw [rx_cl hm]
      refine rx_me1 hm (br_f ra_10 (rx_co1 hc1 hc (br_f ra_10 ⟨rx_in hm, ?_⟩)))
      by_cases b : nI c ≤ B m
      · obtain ⟨r, hX, hY⟩ := rt_wait (K := K) (G := G) (A := A) ok hM hm hc b 300 0 rfl
        exact br_t b ⟨301, hX _ (ry_me1 hm (br_t rfl (ry_co1 hc1 hc (br_t rfl ⟨301, hY _ ⟨rfl, J⟩⟩))))⟩
      · exact br_f b (ry_me1 hm (br_t rfl (ry_co1 hc1 hc (br_t rfl ⟨302, rt_never ok hM hm hc b ⟨rfl, J⟩ 301 0 rfl⟩))))
theorem i_vc_room {k : Nat} {u : SX} {v : SY} (I : i_Rel k u v) (hk : k + 4 ≤ 2048) (v1 : Int32) : wpX_room (fun r => wpY_room (fun r' => r' = r ∧ i_Rel (k + 4) u v) v v1) u v1 := by
  obtain ⟨N, K, R, B, S, T, D, G, A, L, rfl, rfl, ok⟩ := I
  have J : i_Rel (k + 4) (N, K, R, B, S, T, D, G, A, L) (N, K, R, B, S, T, L, D, G, A) := rt_rel ok
  unfold wpX_room
  dsimp only
  unfold wpY_room
  dsimp only
  rcases pk_ix v1 (n := 4) (by decide) with h | h | ⟨m, hm, rfl⟩
  · exact rx_me0 (Or.inl h) (br_t rfl (ry_me0 (Or.inl h) (br_f ra_10 ⟨rfl, J⟩)))
  · exact rx_me0 (Or.inr h) (br_t rfl (ry_me0 (Or.inr h) (br_f ra_10 ⟨rfl, J⟩)))
  · obtain ⟨n, hn, eN, hM, hL⟩ := ok
    exact rx_me1 hm (br_f ra_10 ⟨21, rt_roomX hm 20 (Nat.le_refl 20) (ry_me1 hm (br_t rfl ⟨21, rt_roomY hM hm ⟨rfl, J⟩ 20 0 rfl⟩))⟩)
theorem i_vc_granted {k : Nat} {u : SX} {v : SY} (I : i_Rel k u v) (hk : k + 4 ≤ 2048) (v1 : Int32) : wpX_granted (fun r => wpY_granted (fun r' => r' = r ∧ i_Rel (k + 4) u v) v v1) u v1 := by
  obtain ⟨N, K, R, B, S, T, D, G, A, L, rfl, rfl, ok⟩ := I
  have J : i_Rel (k + 4) (N, K, R, B, S, T, D, G, A, L) (N, K, R, B, S, T, L, D, G, A) := rt_rel ok
  unfold wpX_granted
  dsimp only
  unfold wpY_granted
  dsimp only
  rcases pk_ix v1 (n := 4) (by decide) with h | h | ⟨m, hm, rfl⟩
  · exact rx_me0 (Or.inl h) (br_t rfl (ry_me0 (Or.inl h) (br_f ra_10 ⟨rfl, J⟩)))
  · exact rx_me0 (Or.inr h) (br_t rfl (ry_me0 (Or.inr h) (br_f ra_10 ⟨rfl, J⟩)))
  · exact rx_me1 hm (br_f ra_10 ⟨rx_in hm, ry_me1 hm (br_t rfl ⟨rx_in hm, rfl, J⟩)⟩)
theorem i_vc_denied {k : Nat} {u : SX} {v : SY} (I : i_Rel k u v) (hk : k + 4 ≤ 2048) (v1 : Int32) : wpX_denied (fun r => wpY_denied (fun r' => r' = r ∧ i_Rel (k + 4) u v) v v1) u v1 := by
  obtain ⟨N, K, R, B, S, T, D, G, A, L, rfl, rfl, ok⟩ := I
  have J : i_Rel (k + 4) (N, K, R, B, S, T, D, G, A, L) (N, K, R, B, S, T, L, D, G, A) := rt_rel ok
  unfold wpX_denied
  dsimp only
  unfold wpY_denied
  dsimp only
  rcases pk_ix v1 (n := 4) (by decide) with h | h | ⟨m, hm, rfl⟩
  · exact rx_me0 (Or.inl h) (br_t rfl (ry_me0 (Or.inl h) (br_f ra_10 ⟨rfl, J⟩)))
  · exact rx_me0 (Or.inr h) (br_t rfl (ry_me0 (Or.inr h) (br_f ra_10 ⟨rfl, J⟩)))
  · exact rx_me1 hm (br_f ra_10 ⟨rx_in hm, ry_me1 hm (br_t rfl ⟨rx_in hm, rfl, J⟩)⟩)
theorem i_vc_time {k : Nat} {u : SX} {v : SY} (I : i_Rel k u v) (hk : k + 4 ≤ 2048) : wpX_time (fun r => wpY_time (fun r' => r' = r ∧ i_Rel (k + 4) u v) v) u := by
  obtain ⟨N, K, R, B, S, T, D, G, A, L, rfl, rfl, ok⟩ := I
  exact ⟨rfl, rt_rel ok⟩
