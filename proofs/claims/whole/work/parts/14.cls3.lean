/-! The class's simple methods, on. -/
theorem p_berthedAt_4 {w : Wd} (hO : OK w) {q : Int} (hq : R32 q) : ∀ (m n : Nat) (a k : Nat), (k : Int) + m = w 5 0 → m < n → a < 2 ^ k → fl_berthedAt_4 q n (a : Int) (k : Int) w = some (((a + maskI (fun t => decide (w 14 t.toNat = q)) m k : Nat) : Int), w)
  | 0, n, a, k, h1, h2, h3 => by
    obtain ⟨n, rfl⟩ : ∃ n', n = n' + 1 := ⟨n - 1, by omega⟩
    have hN := hO.1
    rw [fl_berthedAt_4]
    simp (disch := omega) only [wr_id, if_pos]
    rfl
  | m + 1, n, a, k, h1, h2, h3 => by
    obtain ⟨n, rfl⟩ : ∃ n', n = n' + 1 := ⟨n - 1, by omega⟩
    have hN := hO.1
    have hQ := hO.2.1
    have hs := (hO.2.2.2.2.2.1 k (by omega) (by omega)).2.2.2.2.2.2.2.2.1
    rw [fl_berthedAt_4]
    simp (disch := omega) only [wr_id, if_neg, if_pos]
    have e : ((k : Int) + 1) = ((k + 1 : Nat) : Int) := by omega
    rw [maskI]
    by_cases hc : w 14 (k : Int).toNat = q
    · rw [if_pos hc, if_pos (decide_eq_true hc), e, bor_pow (by omega) h3, p_berthedAt_4 hO hq m n (a + 2 ^ k) (k + 1) (by omega) (by omega) (by rw [Nat.pow_succ]; omega), Int.toNat_natCast]
      congr 3
      omega
    · rw [if_neg hc, if_neg (by rw [decide_eq_false hc]; decide), e, p_berthedAt_4 hO hq m n a (k + 1) (by omega) (by omega) (by rw [Nat.pow_succ]; omega), Nat.zero_add]
theorem p_berthedAt {w : Wd} (hO : OK w) {q : Int} (hq : R32 q) : fl_berthedAt q w = some (((maskI (fun t => decide (w 14 t.toNat = q)) (nS w) 0 : Nat) : Int), w) := by
  have hN := nS_i hO
  have := hO.1
  unfold fl_berthedAt
  have := p_berthedAt_4 hO hq (nS w) FU 0 0 (by omega) (by have := FU_big; unfold nS; omega) (by decide)
  rw [Nat.zero_add] at this
  exact this
def ahead (S : Wd) (t s : Int) : Bool := decide (S 9 s.toNat < S 9 t.toNat) || (decide (S 9 t.toNat = S 9 s.toNat) && decide (t < s))
theorem p_aheadOf_4 {w : Wd} (hO : OK w) {s : Int} (s0 : 0 ≤ s) (s1 : s < 7) : ∀ (m n : Nat) (a t : Int), 0 ≤ t → t + m = w 5 0 → m < n → fl_aheadOf_4 s n a t w = some (a + sumI (fun t => bz (bth w t && ahead w t s)) m t, w)
  | 0, n, a, t, h0, h1, h2 => by
    obtain ⟨n, rfl⟩ : ∃ n', n = n' + 1 := ⟨n - 1, by omega⟩
    have hN := hO.1
    rw [fl_aheadOf_4]
    simp (disch := omega) only [wr_id, if_pos]
    simp [sumI]
  | m + 1, n, a, t, h0, h1, h2 => by
    obtain ⟨n, rfl⟩ : ∃ n', n = n' + 1 := ⟨n - 1, by omega⟩
    have hN := hO.1
    have f1 := (hO.2.2.2.2.2.1 s s0 s1).2.2.2.1
    have f2 := (hO.2.2.2.2.2.1 t h0 (by omega)).2.2.2.1
    have ih := fun a => p_aheadOf_4 hO s0 s1 m n a (t + 1) (by omega) (by omega) (by omega)
    rw [fl_aheadOf_4]
    rw [p_isBerthed hO h0 (by omega)]
    simp (disch := omega) only [wr_id, if_neg, if_pos, Option.bind_some, wr_bz, bz_eq0]
    rw [sumI_s]
    simp only [ih]
    have e0 : ∀ x : Int, a + 1 + x = a + (1 + x) := fun x => by omega
    unfold ahead
    cases hb : bth w t
    · simp [bz]
    · by_cases hc : w 9 s.toNat < w 9 t.toNat
      · simp [hc, bz, e0]
      · by_cases hd : w 9 t.toNat = w 9 s.toNat
        · by_cases he : s ≤ t
          · have : ¬ t < s := by omega
            simp [hd, he, this, bz]
          · have : t < s := by omega
            simp [hd, he, this, bz, e0]
        · simp [hc, hd, bz]
def aheadN (S : Wd) (s : Int) : Int := cnt (fun t => bth S t && ahead S t s) (nS S)
theorem p_aheadOf {w : Wd} (hO : OK w) {s : Int} (s0 : 0 ≤ s) (s1 : s < 7) : fl_aheadOf s w = some (aheadN w s, w) := by
  have hN := nS_i hO
  have := hO.1
  unfold fl_aheadOf
  rw [p_aheadOf_4 hO s0 s1 (nS w) FU 0 0 (by omega) (by omega) (by have := FU_big; unfold nS; omega), Int.zero_add]
  rfl
def par (S : Wd) (i : Int) : Int := findI (fun s => bth S s && decide (aheadN S s = i)) (nS S) 0
theorem p_parade_2 {w : Wd} (hO : OK w) {i : Int} (hi : R32 i) : ∀ (m n : Nat) (s : Int), 0 ≤ s → s + m = w 5 0 → m < n → x_parade_2 i n s w = some (findI (fun s => bth w s && decide (aheadN w s = i)) m s, w)
  | 0, n, s, h0, h1, h2 => by
    obtain ⟨n, rfl⟩ : ∃ n', n = n' + 1 := ⟨n - 1, by omega⟩
    have hN := hO.1
    rw [x_parade_2]
    simp (disch := omega) only [wr_id, if_pos]
    rfl
  | m + 1, n, s, h0, h1, h2 => by
    obtain ⟨n, rfl⟩ : ∃ n', n = n' + 1 := ⟨n - 1, by omega⟩
    have hN := hO.1
    have hb := cnt_bd (fun t => bth w t && ahead w t s) (nS w)
    have hn := nS_le hO
    have hb2 : 0 ≤ aheadN w s ∧ aheadN w s ≤ 7 := by unfold aheadN; omega
    rw [x_parade_2]
    rw [p_isBerthed hO h0 (by omega)]
    simp only [Option.bind_some]
    rw [p_aheadOf hO h0 (by omega)]
    simp (disch := omega) only [wr_id, if_neg, if_pos, Option.bind_some, wr_bz, bz_eq0]
    rw [p_parade_2 hO hi m n (s + 1) (by omega) (by omega) (by omega), findI]
    cases hb : bth w s
    · rfl
    · by_cases hc : aheadN w s = i
      · simp [hc]
      · simp [hc]
theorem p_parade {w : Wd} (hO : OK w) {i : Int} (hi : R32 i) : x_parade i w = some (par w i, w) := by
  have hN := nS_i hO
  have := hO.1
  unfold x_parade
  exact p_parade_2 hO hi (nS w) FU 0 (by omega) (by omega) (by have := FU_big; unfold nS; omega)
theorem par_bd {w : Wd} (hO : OK w) (i : Int) : par w i = -1 ∨ (0 ≤ par w i ∧ par w i < w 5 0 ∧ bth w (par w i) = true ∧ aheadN w (par w i) = i) := by
  have hN := nS_i hO
  unfold par
  rcases findI_bd (fun s => bth w s && decide (aheadN w s = i)) (nS w) 0 (by omega) with h | h
  · exact Or.inl h
  · have h3 := h.2.2
    simp only [Bool.and_eq_true, decide_eq_true_eq] at h3
    exact Or.inr ⟨h.1, by omega, h3.1, h3.2⟩
/-- minutes: the greater stop of each two that follow one another, from place i on, while there is one -/
def minsGo (S : Wd) : Nat → Int → Int
  | 0, _ => 0
  | m + 1, i => if par S (i - 1) = -1 ∨ par S i = -1 then 0 else (if S 12 (par S (i - 1)).toNat < S 12 (par S i).toNat then S 12 (par S i).toNat else S 12 (par S (i - 1)).toNat) + minsGo S m (i + 1)
theorem p_minutes_10 {w : Wd} (hO : OK w) : ∀ (m n : Nat) (a i : Int), 1 ≤ i → i + m = 7 → m < n → x_minutes_10 n a (par w (i - 1)) i w = some (a + minsGo w m i, w)
  | 0, n, a, i, h0, h1, h2 => by
    obtain ⟨n, rfl⟩ : ∃ n', n = n' + 1 := ⟨n - 1, by omega⟩
    rw [x_minutes_10]
    simp (disch := omega) only [wr_id, if_pos]
    simp [minsGo]
  | m + 1, n, a, i, h0, h1, h2 => by
    obtain ⟨n, rfl⟩ : ∃ n', n = n' + 1 := ⟨n - 1, by omega⟩
    have hN := hO.1
    have b1 := par_bd hO (i - 1)
    have b2 := par_bd hO i
    have ih := fun a => p_minutes_10 hO m n a (i + 1) (by omega) (by omega) (by omega)
    rw [show i + 1 - 1 = i by omega] at ih
    rw [x_minutes_10, p_parade hO (by omega)]
    simp only [Option.bind_some]
    rw [p_has (by omega) hN]
    simp only [Option.bind_some]
    rw [p_has (by omega) hN]
    simp (disch := omega) only [wr_id, if_neg, Option.bind_some, wr_bz, bz_eq0, isS]
    rw [minsGo]
    by_cases c1 : par w (i - 1) = -1
    · rw [if_pos (decide_eq_false (by omega)), if_pos (Or.inl c1), Int.add_zero]
    · rw [if_neg (by rw [decide_eq_true (by omega)]; decide)]
      by_cases c2 : par w i = -1
      · rw [if_pos (decide_eq_false (by omega)), if_pos (Or.inr c2), Int.add_zero]
      · have s1 := (hO.2.2.2.2.2.1 (par w (i - 1)) (by omega) (by omega)).2.2.2.2.2.2.1
        have s2 := (hO.2.2.2.2.2.1 (par w i) (by omega) (by omega)).2.2.2.2.2.2.1
        rw [if_neg (by rw [decide_eq_true (by omega)]; decide), if_pos (by omega), if_pos (by omega), ih, if_neg (by omega)]
        unfold imax
        simp (disch := omega) only [wr_id]
        rw [Int.add_assoc]
theorem p_minutes {w : Wd} (hO : OK w) : x_minutes w = some (minsGo w 6 1, w) := by
  have h : x_minutes_10 FU 0 (par w (1 - 1)) 1 w = some (0 + minsGo w 6 1, w) := p_minutes_10 hO 6 FU 0 1 (by omega) (by omega) (by have := FU_big; omega)
  have h2 : par w (1 - 1) = par w 0 := by rw [Int.sub_self]
  rw [h2, Int.zero_add] at h
  have h3 : x_parade 0 w = some (par w 0, w) := p_parade hO (by omega)
  unfold x_minutes
  rw [h3, Option.bind_some]
  exact h
def steep (S : Wd) (q h : Int) : Bool := decide (S 4 4 < S 21 q.toNat - lev S h - 30) || decide (S 4 4 < - (S 21 q.toNat - lev S h - 30))
theorem p_steep {w : Wd} (hO : OK w) {q h : Int} (q0 : 0 ≤ q) (q1 : q < 4) (h0 : 0 ≤ h) (h1 : h < 120) : x_isSteep q h w = some (bz (steep w q h), w) := by
  obtain ⟨e0, e1, e2, e3, e4⟩ := hO.2.2.2.2.1
  have hl := lev_bd hO h
  have hq := (hO.2.2.2.2.2.2.1 q q0 q1).2.2.2.2
  unfold x_isSteep steep iabs
  rw [if_pos ⟨q0, q1⟩, p_level h0 (by omega)]
  simp only [Option.bind_some]
  rw [wr_id (x := w 21 q.toNat - (lev w h + 30)) (by omega) (by omega)]
  by_cases c : 0 ≤ w 21 q.toNat - (lev w h + 30)
  · rw [if_pos c]
    simp (disch := omega) only [wr_id]
    by_cases d : w 21 q.toNat - (lev w h + 30) ≤ w 4 4
    · rw [if_pos d, decide_eq_false (by omega), decide_eq_false (by omega)]; rfl
    · rw [if_neg d, decide_eq_true (by omega)]; rfl
  · rw [if_neg c]
    simp (disch := omega) only [wr_id]
    by_cases d : 0 - (w 21 q.toNat - (lev w h + 30)) ≤ w 4 4
    · rw [if_pos d, decide_eq_false (by omega), decide_eq_false (by omega)]; rfl
    · rw [if_neg d, decide_eq_false (by omega), decide_eq_true (by omega)]; rfl
theorem p_open_46 {w : Wd} (hO : OK w) {s to : Int} (s0 : 0 ≤ s) (s1 : s < 7) (hb : 0 ≤ w 14 s.toNat ∧ w 14 s.toNat < 4) (t1 : to < 120) (t0 : -1 ≤ to) : ∀ (m n : Nat) (a h : Int), 0 ≤ h → h + m = to + 1 → m < n → x_open_46 s to n a h w = some (a + sumI (fun k => bz (!steep w (w 14 s.toNat) k)) m h, w)
  | 0, n, a, h, h0, h1, h2 => by
    obtain ⟨n, rfl⟩ : ∃ n', n = n' + 1 := ⟨n - 1, by omega⟩
    rw [x_open_46]
    simp (disch := omega) only [wr_id, if_pos]
    simp [sumI]
  | m + 1, n, a, h, h0, h1, h2 => by
    obtain ⟨n, rfl⟩ : ∃ n', n = n' + 1 := ⟨n - 1, by omega⟩
    have ih := fun a => p_open_46 hO s0 s1 hb t1 t0 m n a (h + 1) (by omega) (by omega) (by omega)
    rw [x_open_46, p_steep hO hb.1 hb.2 h0 (by omega)]
    simp (disch := omega) only [wr_id, if_neg, if_pos, Option.bind_some, wr_bz, bz_eq0]
    rw [sumI_s]
    simp only [ih]
    cases steep w (w 14 s.toNat) h
    · simp [bz]; omega
    · simp [bz]
