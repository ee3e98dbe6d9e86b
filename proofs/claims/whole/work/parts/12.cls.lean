/-! The class's simple methods. -/
theorem p_great_4 {w : Wd} (hO : ∀ k : Int, 0 ≤ k → k < 12 → 0 ≤ w 2 k.toNat ∧ w 2 k.toNat ≤ 80) : ∀ (m n : Nat) (a i : Int), 0 ≤ i → i + m = 12 → m < n → 0 ≤ a → a ≤ 80 → rv_greatestLevel_4 n a i w = some (maxI (fun k => w 2 k.toNat) m i a, w)
  | 0, n, a, i, h0, h1, h2, h3, h4 => by
    obtain ⟨n, rfl⟩ : ∃ n', n = n' + 1 := ⟨n - 1, by omega⟩
    rw [rv_greatestLevel_4]
    simp (disch := omega) only [wr_id, if_pos]
    rfl
  | m + 1, n, a, i, h0, h1, h2, h3, h4 => by
    obtain ⟨n, rfl⟩ : ∃ n', n = n' + 1 := ⟨n - 1, by omega⟩
    have hk := hO i h0 (by omega)
    rw [rv_greatestLevel_4]
    have e : imax a (w 2 i.toNat) = if a < w 2 i.toNat then w 2 i.toNat else a := by
      unfold imax
      simp (disch := omega) only [wr_id]
    simp (disch := omega) only [wr_id, if_pos, if_neg]
    rw [e, p_great_4 hO m n _ (i + 1) (by omega) (by omega) (by omega) (by split <;> omega) (by split <;> omega)]
    rfl
theorem p_great {w : Wd} (hO : ∀ k : Int, 0 ≤ k → k < 12 → 0 ≤ w 2 k.toNat ∧ w 2 k.toNat ≤ 80) : rv_greatestLevel w = some (great w, w) := by
  unfold rv_greatestLevel
  exact p_great_4 hO 12 FU 0 0 (by omega) (by omega) (by have := FU_big; omega) (by omega) (by omega)
theorem lev_bd {w : Wd} (hO : OK w) (h : Int) : 0 ≤ lev w h ∧ lev w h ≤ 80 := hO.2.2.1 (h % 12) (by omega) (by omega)
theorem minI_bd (f : Int → Int) (lo hi : Int) : ∀ (m : Nat) (i a : Int), (∀ k, i ≤ k → k < i + m → lo ≤ f k ∧ f k ≤ hi) → lo ≤ a → a ≤ hi → lo ≤ minI f m i a ∧ minI f m i a ≤ hi
  | 0, i, a, _, h1, h2 => ⟨h1, h2⟩
  | m + 1, i, a, h, h1, h2 => by
    have h3 := h i (by omega) (by omega)
    unfold minI
    exact minI_bd f lo hi m (i + 1) _ (fun k a b => h k (by omega) (by omega)) (by split <;> omega) (by split <;> omega)
theorem maxI_bd (f : Int → Int) (lo hi : Int) : ∀ (m : Nat) (i a : Int), (∀ k, i ≤ k → k < i + m → lo ≤ f k ∧ f k ≤ hi) → lo ≤ a → a ≤ hi → lo ≤ maxI f m i a ∧ maxI f m i a ≤ hi
  | 0, i, a, _, h1, h2 => ⟨h1, h2⟩
  | m + 1, i, a, h, h1, h2 => by
    have h3 := h i (by omega) (by omega)
    unfold maxI
    exact maxI_bd f lo hi m (i + 1) _ (fun k a b => h k (by omega) (by omega)) (by split <;> omega) (by split <;> omega)
theorem least_bd {w : Wd} (hO : OK w) : 0 ≤ least w ∧ least w ≤ 80 := minI_bd _ 0 80 12 0 80 (fun k a b => hO.2.2.1 k (by omega) (by omega)) (by omega) (by omega)
theorem findI_bd (p : Int → Bool) : ∀ (m : Nat) (i : Int), 0 ≤ i → findI p m i = -1 ∨ (i ≤ findI p m i ∧ findI p m i < i + m ∧ p (findI p m i) = true)
  | 0, i, _ => Or.inl rfl
  | m + 1, i, h => by
    unfold findI
    by_cases hp : p i = true
    · rw [if_pos hp]; exact Or.inr ⟨by omega, by omega, hp⟩
    · rw [if_neg hp]
      rcases findI_bd p m (i + 1) (by omega) with h1 | h1
      · exact Or.inl h1
      · exact Or.inr ⟨by omega, by omega, h1.2.2⟩
theorem p_cross {w : Wd} (hO : OK w) {s h : Int} (s0 : 0 ≤ s) (s1 : s < 7) : x_canCross s (lev w h) w = some (bz (cross w s h), w) := by
  obtain ⟨e0, e1, e2, e3, e4⟩ := hO.2.2.2.2.1
  have hs := hO.2.2.2.2.2.1 s s0 s1
  have hl := lev_bd hO h
  unfold OKs at hs
  unfold x_canCross
  rw [if_pos ⟨s0, s1⟩]
  simp (disch := omega) only [wr_id]
  unfold cross
  by_cases hc : w 4 0 + lev w h < w 7 s.toNat + w 4 2
  · rw [if_pos hc, decide_eq_false (by omega)]; rfl
  · rw [if_neg hc, decide_eq_true (by omega)]; rfl
theorem p_clear {w : Wd} (hO : OK w) {s h : Int} (s0 : 0 ≤ s) (s1 : s < 7) : x_clearsBridge s (lev w h) w = some (bz (decide (w 8 s.toNat + lev w h + w 4 2 ≤ w 4 1)), w) := by
  obtain ⟨e0, e1, e2, e3, e4⟩ := hO.2.2.2.2.1
  have hs := hO.2.2.2.2.2.1 s s0 s1
  have hl := lev_bd hO h
  unfold OKs at hs
  unfold x_clearsBridge
  rw [if_pos ⟨s0, s1⟩]
  simp (disch := omega) only [wr_id]
  by_cases hd : w 4 1 < w 8 s.toNat + lev w h + w 4 2
  · rw [if_pos hd, decide_eq_false (by omega)]; rfl
  · rw [if_neg hd, decide_eq_true (by omega)]; rfl
theorem p_way {w : Wd} (hO : OK w) {s h : Int} {ab : Bool} (s0 : 0 ≤ s) (s1 : s < 7) (h0 : 0 ≤ h) (h1 : h < 120) : x_hasWayIn s h (bz ab) w = some (bz (wayIn w s h ab), w) := by
  unfold x_hasWayIn wayIn
  rw [p_level h0 (by omega)]
  simp only [Option.bind_some]
  rw [p_cross hO s0 s1]
  simp only [Option.bind_some, wr_bz, bz_eq0]
  cases hc : cross w s h
  · rw [if_pos rfl]; rfl
  · rw [if_neg (by decide)]
    cases ab
    · rw [if_pos rfl]; rfl
    · rw [if_neg (by decide), p_clear hO s0 s1]
      simp only [Option.bind_some, wr_bz, bz_eq0]
      cases hd : decide (w 8 s.toNat + lev w h + w 4 2 ≤ w 4 1)
      · rw [if_pos rfl]; rfl
      · rw [if_neg (by decide)]; rfl
theorem p_firstWayIn_3 {w : Wd} (hO : OK w) {s : Int} {ab : Bool} (s0 : 0 ≤ s) (s1 : s < 7) : ∀ (m n : Nat) (h : Int), 0 ≤ h → h + m = 120 → m < n → x_firstWayIn_3 s (bz ab) n h w = some (findI (fun k => wayIn w s k ab) m h, w)
  | 0, n, h, h0, h1, h2 => by
    obtain ⟨n, rfl⟩ : ∃ n', n = n' + 1 := ⟨n - 1, by omega⟩
    rw [x_firstWayIn_3]
    simp (disch := omega) only [wr_id, if_pos]
    rfl
  | m + 1, n, h, h0, h1, h2 => by
    obtain ⟨n, rfl⟩ : ∃ n', n = n' + 1 := ⟨n - 1, by omega⟩
    rw [x_firstWayIn_3]
    simp (disch := omega) only [wr_id, if_neg]
    rw [p_way hO s0 s1 h0 (by omega)]
    simp only [Option.bind_some, wr_bz, bz_eq0]
    unfold findI
    cases hc : wayIn w s h ab
    · rw [if_pos rfl, p_firstWayIn_3 hO s0 s1 m n (h + 1) (by omega) (by omega) (by omega)]; rfl
    · rw [if_neg (by decide)]; rfl
theorem p_firstWayIn {w : Wd} (hO : OK w) {s h : Int} {ab : Bool} (s0 : 0 ≤ s) (s1 : s < 7) (h0 : 0 ≤ h) (h1 : h ≤ 120) : x_firstWayIn s h (bz ab) w = some (firstIn w s h ab, w) := by
  unfold x_firstWayIn firstIn
  exact p_firstWayIn_3 hO s0 s1 _ FU h h0 (by omega) (by have := FU_big; omega)
theorem firstIn_bd (w : Wd) (s h : Int) (ab : Bool) (h0 : 0 ≤ h) (h1 : h ≤ 120) : -1 ≤ firstIn w s h ab ∧ firstIn w s h ab < 120 := by
  unfold firstIn
  rcases findI_bd (fun k => wayIn w s k ab) (120 - h).toNat h h0 with e | e
  · rw [e]; omega
  · omega
theorem p_afloat {w : Wd} (hO : OK w) {s q : Int} (s0 : 0 ≤ s) (s1 : s < 7) (q0 : 0 ≤ q) (q1 : q < 4) : x_isAfloat s q w = some (bz (afloat w s q), w) := by
  obtain ⟨e0, e1, e2, e3, e4⟩ := hO.2.2.2.2.1
  have hs := hO.2.2.2.2.2.1 s s0 s1
  have hq := hO.2.2.2.2.2.2.1 q q0 q1
  have hl := least_bd hO
  unfold OKs at hs
  unfold OKq at hq
  unfold x_isAfloat afloat
  rw [if_pos ⟨s0, s1⟩, if_pos ⟨q0, q1⟩, p_least hO.2.2.1]
  simp (disch := omega) only [Option.bind_some, wr_id]
  by_cases hc : w 18 q.toNat + least w < w 7 s.toNat + w 4 2
  · rw [if_pos hc, decide_eq_false (by omega)]; rfl
  · rw [if_neg hc, decide_eq_true (by omega)]; rfl
theorem above_bz {w : Wd} (hO : OK w) {q : Int} (q0 : 0 ≤ q) (q1 : q < 4) : w 19 q.toNat = bz (above w q) := by
  have hq := hO.2.2.2.2.2.2.1 q q0 q1
  unfold OKq at hq
  unfold above
  rcases hq.2.2.1 with h | h <;> rw [h] <;> rfl
theorem p_hind {w : Wd} (hO : OK w) {s q : Int} (s0 : 0 ≤ s) (s1 : s < 7) (q0 : 0 ≤ q) (q1 : q < 4) : x_hindrance s q w = some (hind w s q, w) := by
  have hs := hO.2.2.2.2.2.1 s s0 s1
  unfold OKs at hs
  unfold x_hindrance hind
  rw [p_afloat hO s0 s1 q0 q1]
  simp only [Option.bind_some, wr_bz, bz_eq0]
  cases hc : afloat w s q
  · rfl
  · rw [if_neg (by decide), if_pos ⟨s0, s1⟩, if_pos ⟨q0, q1⟩, above_bz hO q0 q1, p_firstWayIn hO s0 s1 (by omega) (by omega)]
    have hb := firstIn_bd w s (w 11 s.toNat) (above w q) (by omega) (by omega)
    simp (disch := omega) only [Option.bind_some, wr_id, if_true]
    split <;> rfl
theorem hind_bd (w : Wd) (s q : Int) : 0 ≤ hind w s q ∧ hind w s q ≤ 2 := by
  unfold hind
  split
  · split <;> omega
  · omega
def bth (S : Wd) (s : Int) : Bool := decide (S 14 s.toNat ≠ -1)
theorem p_isBerthed {w : Wd} (hO : OK w) {s : Int} (s0 : 0 ≤ s) (s1 : s < 7) : fl_isBerthed s w = some (bz (bth w s), w) := by
  have hs := hO.2.2.2.2.2.1 s s0 s1
  have hQ := hO.2.1
  unfold OKs at hs
  unfold fl_isBerthed bth
  rw [if_pos ⟨s0, s1⟩]
  simp (disch := omega) only [wr_id]
  by_cases hc : w 14 s.toNat = -1
  · rw [if_pos hc, decide_eq_false (by simpa using hc)]; rfl
  · rw [if_neg hc, decide_eq_true hc]; rfl
theorem bor_pow {a k : Nat} (hk : k < 8) (ha : a < 2 ^ k) : bor (a : Int) (bshl 1 (k : Int)) = ((a + 2 ^ k : Nat) : Int) := by
  have h2 : 2 ^ k < 2 ^ 8 := Nat.pow_lt_pow_right (by omega) hk
  rw [show (1 : Int) = ((1 : Nat) : Int) from rfl, bshl_n (by omega) (by omega), bor_n (by omega) (by omega)]
  have := Nat.two_pow_add_eq_or_of_lt ha 1
  rw [Nat.mul_one] at this
  rw [Nat.one_mul, Nat.or_comm, ← this, Nat.add_comm]
theorem p_berthed_4 {w : Wd} (hO : OK w) : ∀ (m n : Nat) (a k : Nat), (k : Int) + m = w 5 0 → m < n → a < 2 ^ k → fl_berthed_4 n (a : Int) (k : Int) w = some (((a + maskI (bth w) m k : Nat) : Int), w)
  | 0, n, a, k, h1, h2, h3 => by
    obtain ⟨n, rfl⟩ : ∃ n', n = n' + 1 := ⟨n - 1, by omega⟩
    have hN := hO.1
    rw [fl_berthed_4]
    simp (disch := omega) only [wr_id, if_pos]
    rfl
  | m + 1, n, a, k, h1, h2, h3 => by
    obtain ⟨n, rfl⟩ : ∃ n', n = n' + 1 := ⟨n - 1, by omega⟩
    have hN := hO.1
    rw [fl_berthed_4]
    simp (disch := omega) only [wr_id, if_neg]
    rw [p_isBerthed hO (by omega) (by omega)]
    simp only [Option.bind_some, wr_bz, bz_eq0]
    have e : ((k : Int) + 1) = ((k + 1 : Nat) : Int) := by omega
    unfold maskI
    cases hc : bth w k
    · rw [if_pos rfl, e, p_berthed_4 hO m n a (k + 1) (by omega) (by omega) (by rw [Nat.pow_succ]; omega)]
      simp
    · rw [if_neg (by decide), e, bor_pow (by omega) h3, p_berthed_4 hO m n (a + 2 ^ k) (k + 1) (by omega) (by omega) (by rw [Nat.pow_succ]; omega)]
      simp
      omega
def nS (S : Wd) : Nat := (S 5 0).toNat
def nQ (S : Wd) : Nat := (S 16 0).toNat
theorem p_berthed {w : Wd} (hO : OK w) : fl_berthed w = some (((maskI (bth w) (nS w) 0 : Nat) : Int), w) := by
  have hN := hO.1
  unfold fl_berthed
  have := p_berthed_4 hO (nS w) FU 0 0 (by unfold nS; omega) (by have := FU_big; unfold nS; omega) (by decide)
  rw [Nat.zero_add] at this
  exact this
