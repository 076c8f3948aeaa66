/-! the meters of a set; denials; grants one after another -/
def ra_in (s : Int32) (i : Nat) : Bool := decide ((s >>> (nI i &&& 31)) &&& 1 = 1)
def ra_dn (p : Nat → Bool) (DN : Nat → Int32) : Nat → (Nat → Int32)
  | 0 => DN
  | i + 1 => if p i = true then upd (ra_dn p DN i) i (ra_dn p DN i i + 1) else ra_dn p DN i
theorem ra_dn_t {p : Nat → Bool} {DN : Nat → Int32} {i : Nat} (h : p i = true) : ra_dn p DN (i + 1) = upd (ra_dn p DN i) i (ra_dn p DN i i + 1) := if_pos h
theorem ra_dn_f {p : Nat → Bool} {DN : Nat → Int32} {i : Nat} (h : ¬ p i = true) : ra_dn p DN (i + 1) = ra_dn p DN i := if_neg h
def ra_al (p : Nat → Bool) : Nat → Int32
  | 0 => 1
  | i + 1 => if p i = true then 0 else ra_al p i
theorem ra_al_t {p : Nat → Bool} {i : Nat} (h : p i = true) : ra_al p (i + 1) = 0 := if_pos h
theorem ra_al_f {p : Nat → Bool} {i : Nat} (h : ¬ p i = true) : ra_al p (i + 1) = ra_al p i := if_neg h
theorem ra_al_01 (p : Nat → Bool) : ∀ i, ra_al p i = 0 ∨ ra_al p i = 1 := by
  intro i
  induction i with
  | zero => exact Or.inr rfl
  | succ i ih =>
    by_cases h : p i = true
    · exact Or.inl (ra_al_t h)
    · rw [ra_al_f h]
      exact ih
theorem ra_al_no {p : Nat → Bool} : ∀ i, ¬ ra_al p i = 0 → ∀ j, j < i → ¬ p j = true := by
  intro i
  induction i with
  | zero => intro _ j hj; omega
  | succ i ih =>
    intro h j hj
    by_cases g : p i = true
    · exact absurd (ra_al_t g) h
    · rw [ra_al_f g] at h
      by_cases e : j = i
      · rw [e]
        exact g
      · exact ih h j (by omega)
def ra_gs (N : Int32) (K S : Nat → Int32) (q : Nat → Bool) (c : Int32) (T D G L : Nat → Int32) : Nat → (Nat → Int32) × (Nat → Int32) × (Nat → Int32) × (Nat → Int32)
  | 0 => (T, D, G, L)
  | i + 1 => if q i = true then (ra_gT K (ra_gs N K S q c T D G L i).1 i c, ra_gD N K S (ra_gs N K S q c T D G L i).2.1 i c, upd (ra_gs N K S q c T D G L i).2.2.1 i ((ra_gs N K S q c T D G L i).2.2.1 i + c), ra_gL K (ra_gs N K S q c T D G L i).2.2.2 i c) else ra_gs N K S q c T D G L i
theorem ra_gs_t {N : Int32} {K S : Nat → Int32} {q : Nat → Bool} {c : Int32} {T D G L : Nat → Int32} {i : Nat} (h : q i = true) : ra_gs N K S q c T D G L (i + 1) = (ra_gT K (ra_gs N K S q c T D G L i).1 i c, ra_gD N K S (ra_gs N K S q c T D G L i).2.1 i c, upd (ra_gs N K S q c T D G L i).2.2.1 i ((ra_gs N K S q c T D G L i).2.2.1 i + c), ra_gL K (ra_gs N K S q c T D G L i).2.2.2 i c) := if_pos h
theorem ra_gs_f {N : Int32} {K S : Nat → Int32} {q : Nat → Bool} {c : Int32} {T D G L : Nat → Int32} {i : Nat} (h : ¬ q i = true) : ra_gs N K S q c T D G L (i + 1) = ra_gs N K S q c T D G L i := if_neg h
theorem ra_gsok {N : Int32} {K R B S T D G L : Nat → Int32} (h : ra_ok N R B S T D L) {c : Nat} (hc1 : 1 ≤ c) (hc : c ≤ 20) {q : Nat → Bool} (hq : ∀ i, i < 4 → q i = true → ra_W N K R B S T D L i (nI c) 0 = true) : ∀ i, i ≤ 4 → ra_ok N R B S (ra_gs N K S q (nI c) T D G L i).1 (ra_gs N K S q (nI c) T D G L i).2.1 (ra_gs N K S q (nI c) T D G L i).2.2.2 ∧ ∀ j, i ≤ j → j < 4 → ra_W N K R B S (ra_gs N K S q (nI c) T D G L i).1 (ra_gs N K S q (nI c) T D G L i).2.1 (ra_gs N K S q (nI c) T D G L i).2.2.2 j (nI c) 0 = ra_W N K R B S T D L j (nI c) 0 := by
  intro i
  induction i with
  | zero => intro _; exact ⟨h, fun j _ _ => rfl⟩
  | succ i ih =>
    intro hi
    obtain ⟨a, b⟩ := ih (by omega)
    by_cases g : q i = true
    · rw [ra_gs_t g]
      dsimp only
      refine ⟨ra_gok a (by omega) hc1 hc ?_, fun j hj hj4 => ?_⟩
      · rw [b i (Nat.le_refl i) (by omega)]
        exact hq i (by omega) g
      · rw [ra_gW (by omega)]
        exact b j (by omega) hj4
    · rw [ra_gs_f g]
      exact ⟨a, fun j hj hj4 => b j (by omega) hj4⟩
/-! a set of one meter -/
theorem ra_one_dn {p : Nat → Bool} {DN : Nat → Int32} {m : Nat} (hp : ∀ i, i < 4 → (p i = true ↔ i = m)) : ∀ k, k ≤ 4 → (k ≤ m → ra_dn p DN k = DN ∧ ra_al p k = 1) ∧ (m < k → ra_dn p DN k = upd DN m (DN m + 1) ∧ ra_al p k = 0) := by
  intro k
  induction k with
  | zero => intro _; exact ⟨fun _ => ⟨rfl, rfl⟩, fun h => by omega⟩
  | succ k ih =>
    intro hk
    obtain ⟨a, b⟩ := ih (by omega)
    have hk' := hp k (by omega)
    refine ⟨fun h => ?_, fun h => ?_⟩
    · have g : ¬ p k = true := fun z => by have := hk'.mp z; omega
      rw [ra_dn_f g, ra_al_f g]
      exact a (by omega)
    · by_cases e : k = m
      · have g : p k = true := hk'.mpr e
        rw [ra_dn_t g, ra_al_t g, (a (by omega)).1]
        subst e
        exact ⟨rfl, rfl⟩
      · have g : ¬ p k = true := fun z => e (hk'.mp z)
        rw [ra_dn_f g, ra_al_f g]
        exact b (by omega)
theorem ra_none_dn {p : Nat → Bool} {DN : Nat → Int32} (hp : ∀ i, i < 4 → ¬ p i = true) : ∀ k, k ≤ 4 → ra_dn p DN k = DN ∧ ra_al p k = 1 := by
  intro k
  induction k with
  | zero => intro _; exact ⟨rfl, rfl⟩
  | succ k ih =>
    intro hk
    rw [ra_dn_f (hp k (by omega)), ra_al_f (hp k (by omega))]
    exact ih (by omega)
theorem ra_one_gs {N : Int32} {K S : Nat → Int32} {q : Nat → Bool} {c : Int32} {T D G L : Nat → Int32} {m : Nat} (hq : ∀ i, i < 4 → (q i = true ↔ i = m)) : ∀ k, k ≤ 4 → (k ≤ m → ra_gs N K S q c T D G L k = (T, D, G, L)) ∧ (m < k → ra_gs N K S q c T D G L k = (ra_gT K T m c, ra_gD N K S D m c, upd G m (G m + c), ra_gL K L m c)) := by
  intro k
  induction k with
  | zero => intro _; exact ⟨fun _ => rfl, fun h => by omega⟩
  | succ k ih =>
    intro hk
    obtain ⟨a, b⟩ := ih (by omega)
    have hk' := hq k (by omega)
    refine ⟨fun h => ?_, fun h => ?_⟩
    · have g : ¬ q k = true := fun z => by have := hk'.mp z; omega
      rw [ra_gs_f g]
      exact a (by omega)
    · by_cases e : k = m
      · have g : q k = true := hk'.mpr e
        rw [ra_gs_t g, a (by omega)]
        subst e
        rfl
      · have g : ¬ q k = true := fun z => e (hk'.mp z)
        rw [ra_gs_f g]
        exact b (by omega)
theorem ra_in_tab : ∀ m : Fin 4, ∀ i : Fin 4, (ra_in ((1 : Int32) <<< (nI m.val &&& 31)) i.val = true ↔ i.val = m.val) := by decide +kernel
theorem ra_in_one {m i : Nat} (hm : m < 4) (hi : i < 4) : ra_in ((1 : Int32) <<< (nI m &&& 31)) i = true ↔ i = m := ra_in_tab ⟨m, hm⟩ ⟨i, hi⟩
/-! a meter made anew; the constructor's four -/
def ra_z (L : Nat → Int32) (b : Nat) : Nat → (Nat → Int32)
  | 0 => L
  | i + 1 => upd (ra_z L b i) (b + i) 0
theorem ra_z_g {L : Nat → Int32} (h : ra_Lg L) (b : Nat) : ∀ i, ra_Lg (ra_z L b i) := by
  intro i
  induction i with
  | zero => exact h
  | succ i ih => exact ra_Lg_u ih (b + i) 0 (by omega)
def ra_cn (f : Nat → Int32) (x : Int32) : Nat → (Nat → Int32)
  | 0 => f
  | i + 1 => upd (ra_cn f x i) i x
theorem ra_cn_v (f : Nat → Int32) (x : Int32) : ∀ i j, j < i → ra_cn f x i j = x := by
  intro i
  induction i with
  | zero => intro j hj; omega
  | succ i ih =>
    intro j hj
    show upd (ra_cn f x i) i x j = x
    by_cases g : j = i
    · rw [g, pk_us]
    · rw [pk_un g]
      exact ih j (by omega)
def ra_zl (L : Nat → Int32) : Nat → (Nat → Int32)
  | 0 => L
  | i + 1 => ra_z (ra_zl L i) (i * 10) 10
theorem ra_zl_g {L : Nat → Int32} (h : ra_Lg L) : ∀ i, ra_Lg (ra_zl L i) := by
  intro i
  induction i with
  | zero => exact h
  | succ i ih => exact ra_z_g ih (i * 10) 10
theorem ra_Lg0 : ra_Lg (fun _ => 0) := fun _ _ => ⟨0, by omega, rfl⟩
theorem ra_due0 : (-1000000 : Int32).toInt = -1000000 := by decide
theorem ra_ok0 (f g h i j : Nat → Int32) : ra_ok 0 (ra_cn f 1 4) (ra_cn g 10 4) (ra_cn h 1 4) (ra_cn i 10 4) (ra_cn j (-1000000) 4) (ra_zl (fun _ => 0) 4) := by
  refine ⟨0, by omega, rfl, fun m hm => ⟨1, 10, 1, 10, by omega, ?_⟩, ra_zl_g ra_Lg0 4⟩
  rw [ra_cn_v f 1 4 m hm, ra_cn_v g 10 4 m hm, ra_cn_v h 1 4 m hm, ra_cn_v i 10 4 m hm, ra_cn_v j (-1000000) 4 m hm, ra_due0]
  exact ⟨rfl, rfl, rfl, rfl, by omega, by omega⟩
theorem ra_set_ok {N : Int32} {R B S T D L : Nat → Int32} (h : ra_ok N R B S T D L) (m : Nat) {r b s : Nat} (hr1 : 1 ≤ r) (hr : r ≤ 5) (hb1 : 1 ≤ b) (hb : b ≤ 30) (hs1 : 1 ≤ s) (hs : s ≤ 10) : ra_ok N (upd R m (nI r)) (upd B m (nI b)) (upd S m (nI s)) (upd T m (nI b)) (upd D m (-1000000)) (ra_z L (m * 10) 10) := by
  obtain ⟨n, hn, rfl, hM, hL⟩ := h
  refine ⟨n, hn, rfl, fun j hj => ?_, ra_z_g hL (m * 10) 10⟩
  by_cases g : j = m
  · rw [g, pk_us, pk_us, pk_us, pk_us, pk_us]
    refine ⟨r, b, s, b, by omega, rfl, rfl, rfl, rfl, ?_⟩
    rw [ra_due0]
    omega
  · rw [pk_un g, pk_un g, pk_un g, pk_un g, pk_un g]
    exact hM j hj
/-! time passes -/
def ra_ag (L : Nat → Int32) (b u : Nat) : Nat → (Nat → Int32)
  | 0 => L
  | d + 1 => upd (ra_ag L b u d) (b + (9 - d)) (if u ≤ 9 - d then ra_ag L b u d (b + (9 - d) - u) else 0)
theorem ra_ag_g {L : Nat → Int32} (h : ra_Lg L) {b : Nat} (hb : b + 10 ≤ 40) (u : Nat) : ∀ d, ra_Lg (ra_ag L b u d) := by
  intro d
  induction d with
  | zero => exact h
  | succ d ih =>
    show ra_Lg (upd (ra_ag L b u d) (b + (9 - d)) (if u ≤ 9 - d then ra_ag L b u d (b + (9 - d) - u) else 0))
    by_cases g : u ≤ 9 - d
    · rw [if_pos g]
      exact ra_Lg_c ih _ _ (by omega)
    · rw [if_neg g]
      exact ra_Lg_u ih _ 0 (by omega)
def ra_pL (L : Nat → Int32) (u : Nat) : Nat → (Nat → Int32)
  | 0 => L
  | i + 1 => ra_ag (ra_pL L u i) (i * 10) u 10
theorem ra_pL_g {L : Nat → Int32} (h : ra_Lg L) (u : Nat) : ∀ i, i ≤ 4 → ra_Lg (ra_pL L u i) := by
  intro i
  induction i with
  | zero => intro _; exact h
  | succ i ih => intro hi; exact ra_ag_g (ih (by omega)) (by omega) u 10
def ra_pT (R B T : Nat → Int32) (w : Int32) : Nat → (Nat → Int32)
  | 0 => T
  | i + 1 => upd (ra_pT R B T w i) i (ra_min (ra_pT R B T w i i) (R i) (B i) w)
theorem ra_pT_g {R B S T D : Nat → Int32} {n u : Nat} (h : ra_Ms R B S T D n) (hu : u ≤ 1000) : ∀ i, i ≤ 4 → ra_Ms R B S (ra_pT R B T (nI u) i) D (n + u) := by
  intro i
  induction i with
  | zero =>
    intro _ m hm
    obtain ⟨r, b, s, t, hb, eR, eB, eS, eT, hd, hd2⟩ := h m hm
    exact ⟨r, b, s, t, hb, eR, eB, eS, eT, hd, by omega⟩
  | succ i ih =>
    intro hi m hm
    have hM := ih (by omega) m hm
    show ra_M (R m) (B m) (S m) (upd (ra_pT R B T (nI u) i) i (ra_min (ra_pT R B T (nI u) i i) (R i) (B i) (nI u)) m) (D m) (n + u)
    by_cases g : m = i
    · subst g
      obtain ⟨r, b, s, t, hb, eR, eB, eS, eT, hd, hd2⟩ := hM
      rw [pk_us, eT]
      refine ⟨r, b, s, ra_mn (t + r * u) b, ?_, eR, eB, eS, ?_, hd, hd2⟩
      · have := ra_mn_le (t + r * u) b
        omega
      · rw [eR, eB]
        exact ra_min_n (by omega) (by omega) (by omega) hu
    · rw [pk_un g]
      exact hM
/-! the greatest cost that would be granted -/
def ra_rm (p : Nat → Bool) : Nat → Nat
  | 0 => 0
  | i + 1 => if p (i + 1) = true then i + 1 else ra_rm p i
theorem ra_rm_t {p : Nat → Bool} {i : Nat} (h : p (i + 1) = true) : ra_rm p (i + 1) = i + 1 := if_pos h
theorem ra_rm_f {p : Nat → Bool} {i : Nat} (h : ¬ p (i + 1) = true) : ra_rm p (i + 1) = ra_rm p i := if_neg h
