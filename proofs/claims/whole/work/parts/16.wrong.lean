/-! Room, wrong, parade of both. -/
def roomGo (S : Wd) (r : Int → Int) (q : Int) : Nat → Int → Int → Int → Int
  | 0, _, _, a => a
  | m + 1, s, b, a => if r s = q then roomGo S r q m (s + 1) (b + 1) (a - S 6 s.toNat - (if b ≤ 0 then 0 else S 4 3)) else roomGo S r q m (s + 1) b a
def roomOf (S : Wd) (r : Int → Int) (q : Int) : Int := roomGo S r q (nS S) 0 0 (S 17 q.toNat)
theorem roomGo_bd {S : Wd} (hO : OK S) (r : Int → Int) (q : Int) : ∀ (m : Nat) (s b a : Int), 0 ≤ s → s + m ≤ 7 → a - 1300 * m ≤ roomGo S r q m s b a ∧ roomGo S r q m s b a ≤ a
  | 0, s, b, a, _, _ => by simp [roomGo]
  | m + 1, s, b, a, h0, h1 => by
    obtain ⟨e0, e1, e2, e3, e4⟩ := hO.2.2.2.2.1
    have hs := (hO.2.2.2.2.2.1 s h0 (by omega)).1
    rw [roomGo]
    split
    · have := roomGo_bd hO r q m (s + 1) (b + 1) (a - S 6 s.toNat - (if b ≤ 0 then 0 else S 4 3)) (by omega) (by omega)
      have h3 : 0 ≤ (if b ≤ 0 then 0 else S 4 3) ∧ (if b ≤ 0 then 0 else S 4 3) ≤ 100 := by split <;> omega
      omega
    · have := roomGo_bd hO r q m (s + 1) b a (by omega) (by omega)
      omega
theorem roomOf_bd {S : Wd} (hO : OK S) (r : Int → Int) {q : Int} (q0 : 0 ≤ q) (q1 : q < 4) : -10000 ≤ roomOf S r q ∧ roomOf S r q ≤ 4000 := by
  have hq := (hO.2.2.2.2.2.2.1 q q0 q1).1
  have hn := nS_le hO
  have := roomGo_bd hO r q (nS S) 0 0 (S 17 q.toNat) (by omega) (by omega)
  unfold roomOf
  omega
theorem p_room_15 {w : Wd} (hO : OK w) {q : Int} (hq : R32 q) : ∀ (m n : Nat) (a b s : Int), 0 ≤ s → s + m = w 5 0 → m < n → 0 ≤ b → b ≤ s → x_roomLeft_15 q n a b s w = some (roomGo w (rowOf w) q m s b a, w)
  | 0, n, a, b, s, h0, h1, h2, h3, h4 => by
    obtain ⟨n, rfl⟩ : ∃ n', n = n' + 1 := ⟨n - 1, by omega⟩
    have hN := hO.1
    rw [x_roomLeft_15]
    simp (disch := omega) only [wr_id, if_pos]
    rfl
  | m + 1, n, a, b, s, h0, h1, h2, h3, h4 => by
    obtain ⟨n, rfl⟩ : ∃ n', n = n' + 1 := ⟨n - 1, by omega⟩
    have hN := hO.1
    have hQ := hO.2.1
    have hs := (hO.2.2.2.2.2.1 s h0 (by omega)).2.2.2.2.2.2.2.2.1
    have ih := fun a b h3 h4 => p_room_15 hO hq m n a b (s + 1) (by omega) (by omega) (by omega) h3 h4
    rw [x_roomLeft_15]
    simp (disch := omega) only [wr_id, if_neg, if_pos]
    rw [roomGo]
    by_cases c : w 14 s.toNat = q
    · rw [if_pos c, if_pos c]
      by_cases d : b ≤ 0
      · rw [if_pos d, if_pos d, ih _ _ (by omega) (by omega), Int.add_zero, Int.sub_zero]
      · rw [if_neg d, if_neg d, ih _ _ (by omega) (by omega), Int.sub_sub]
    · rw [if_neg c, if_neg c, ih _ _ (by omega) (by omega)]
theorem p_room {w : Wd} (hO : OK w) {q : Int} (q0 : 0 ≤ q) (q1 : q < 4) : x_roomLeft q w = some (roomOf w (rowOf w) q, w) := by
  have hN := nS_i hO
  have := hO.1
  unfold x_roomLeft roomOf
  rw [if_pos ⟨q0, q1⟩]
  exact p_room_15 hO (by omega) (nS w) FU _ 0 0 (by omega) (by omega) (by have := FU_big; unfold nS; omega) (by omega) (by omega)
theorem q_room_15 {S w : Wd} (hO : OK S) (hM : RM S w) {c : Nat} {r : Int → Int} (hr : rowIn S w c r) {q : Int} (hq : R32 q) : ∀ (m n : Nat) (a b s : Int), 0 ≤ s → s + m = S 5 0 → m < n → 0 ≤ b → b ≤ s → m_room_15 c q n a b s w = some (roomGo S r q m s b a, w)
  | 0, n, a, b, s, h0, h1, h2, h3, h4 => by
    obtain ⟨n, rfl⟩ : ∃ n', n = n' + 1 := ⟨n - 1, by omega⟩
    have hN := hO.1
    rw [m_room_15, hM.1]
    simp (disch := omega) only [wr_id, if_pos]
    rfl
  | m + 1, n, a, b, s, h0, h1, h2, h3, h4 => by
    obtain ⟨n, rfl⟩ : ∃ n', n = n' + 1 := ⟨n - 1, by omega⟩
    have hN := hO.1
    have hQ := hO.2.1
    obtain ⟨z1, z2, z3⟩ := hr s h0 (by omega)
    obtain ⟨r0, r1, r2, r3, r4⟩ := RM_e hM
    have hR := hM.2.2.2.2.2.1 s h0 (by omega)
    have ih := fun a b h3 h4 => q_room_15 hO hM hr hq m n a b (s + 1) (by omega) (by omega) (by omega) h3 h4
    rw [m_room_15, z1, hM.1, hR.1, r3]
    simp (disch := omega) only [wr_id, if_neg, if_pos]
    rw [roomGo]
    by_cases c : r s = q
    · rw [if_pos c, if_pos c]
      by_cases d : b ≤ 0
      · rw [if_pos d, if_pos d, ih _ _ (by omega) (by omega), Int.sub_zero]
      · rw [if_neg d, if_neg d, ih _ _ (by omega) (by omega)]
    · rw [if_neg c, if_neg c, ih _ _ (by omega) (by omega)]
theorem q_room {S w : Wd} (hO : OK S) (hM : RM S w) {c : Nat} {r : Int → Int} (hr : rowIn S w c r) {q : Int} (q0 : 0 ≤ q) (q1 : q < S 16 0) : m_room c q w = some (roomOf S r q, w) := by
  have hN := nS_i hO
  have hQ := hO.2.1
  have := hO.1
  have hR := hM.2.2.2.2.2.2.1 q q0 q1
  unfold m_room roomOf
  rw [if_pos (by omega), hR.1]
  exact q_room_15 hO hM hr (by omega) (nS S) FU _ 0 0 (by omega) (by omega) (by have := FU_big; unfold nS; omega) (by omega) (by omega)
/-! wrong -/
def misP (S : Wd) (r : Int → Int) (s : Int) : Bool := decide (r s ≠ -1) && decide (hind S s (r s) ≠ 0)
def anyI (p : Int → Bool) : Nat → Int → Bool
  | 0, _ => false
  | m + 1, i => p i || anyI p m (i + 1)
def fouP (S : Wd) (r : Int → Int) (s : Int) : Bool := decide (r s ≠ -1) && anyI (fun t => decide (r t = r s) && foul S s t) (nS S) 0
def shoP (S : Wd) (r : Int → Int) (q : Int) : Bool := decide (roomOf S r q < 0)
def wrongOf (S : Wd) (r : Int → Int) : Int := if findI (misP S r) (nS S) 0 = -1 then (if findI (fouP S r) (nS S) 0 = -1 then (if findI (shoP S r) (nQ S) 0 = -1 then 0 else 30 + findI (shoP S r) (nQ S) 0) else 20 + findI (fouP S r) (nS S) 0) else 10 + findI (misP S r) (nS S) 0
theorem findI_bd2 (p : Int → Bool) (m : Nat) (i : Int) (h : 0 ≤ i) : -1 ≤ findI p m i ∧ findI p m i < i + m ∨ m = 0 ∧ findI p m i = -1 := by
  rcases findI_bd p m i h with e | e
  · rcases m with _ | m
    · exact Or.inr ⟨rfl, e⟩
    · exact Or.inl (by omega)
  · exact Or.inl (by omega)
theorem anyI_iff (p : Int → Bool) : ∀ (m : Nat) (i : Int), anyI p m i = true ↔ ∃ k, i ≤ k ∧ k < i + m ∧ p k = true
  | 0, i => by
    simp only [anyI]
    exact ⟨fun h => (by cases h), fun ⟨k, a, b, _⟩ => (by omega)⟩
  | m + 1, i => by
    rw [anyI, Bool.or_eq_true, anyI_iff p m (i + 1)]
    constructor
    · rintro (h | ⟨k, a, b, c⟩)
      · exact ⟨i, by omega, by omega, h⟩
      · exact ⟨k, by omega, by omega, c⟩
    · rintro ⟨k, a, b, c⟩
      by_cases e : k = i
      · subst e; exact Or.inl c
      · exact Or.inr ⟨k, by omega, by omega, c⟩
theorem p_mis_2 {w : Wd} (hO : OK w) : ∀ (m n : Nat) (s : Int), 0 ≤ s → s + m = w 5 0 → m < n → x_firstMisplaced_2 n s w = some (findI (misP w (rowOf w)) m s, w)
  | 0, n, s, h0, h1, h2 => by
    obtain ⟨n, rfl⟩ : ∃ n', n = n' + 1 := ⟨n - 1, by omega⟩
    have hN := hO.1
    rw [x_firstMisplaced_2]
    simp (disch := omega) only [wr_id, if_pos]
    rfl
  | m + 1, n, s, h0, h1, h2 => by
    obtain ⟨n, rfl⟩ : ∃ n', n = n' + 1 := ⟨n - 1, by omega⟩
    have hN := hO.1
    have hQ := hO.2.1
    have hs := (hO.2.2.2.2.2.1 s h0 (by omega)).2.2.2.2.2.2.2.2.1
    have ih := p_mis_2 hO m n (s + 1) (by omega) (by omega) (by omega)
    rw [x_firstMisplaced_2, p_hasQ (by omega) hQ]
    simp (disch := omega) only [wr_id, if_neg, if_pos, Option.bind_some, wr_bz, bz_eq0, ih]
    rw [findI]
    unfold isQ
    by_cases c : w 14 s.toNat = -1
    · rw [if_pos (decide_eq_false (by omega))]
      have em : misP w (rowOf w) s = false := by simp [misP, c]
      simp only [em, Bool.false_eq_true, if_false]
    · have hh := hind_bd w s (w 14 s.toNat)
      rw [if_neg (by rw [decide_eq_true (by omega)]; decide), p_hind hO h0 (by omega) (by omega) (by omega)]
      simp (disch := omega) only [Option.bind_some, wr_id, ih]
      by_cases d : hind w s (w 14 s.toNat) = 0
      · have em : misP w (rowOf w) s = false := by simp [misP, d]
        simp only [d, em, Bool.false_eq_true, if_true, if_false]
      · have em : misP w (rowOf w) s = true := by simp [misP, c, d]
        simp only [d, em, if_true, if_false]
theorem band_mask {a b : Nat} (ha : a < 128) (hb : b < 128) : band (a : Int) (b : Int) = 0 ↔ ∀ t : Nat, ¬ (a.testBit t = true ∧ b.testBit t = true) := by
  rw [band_n (by omega) (by omega)]
  constructor
  · intro h t ⟨h1, h2⟩
    have h3 : a &&& b = 0 := by omega
    have h4 : (a &&& b).testBit t = true := by rw [Nat.testBit_and, h1, h2]; rfl
    rw [h3, Nat.zero_testBit] at h4
    cases h4
  · intro h
    have h3 : a &&& b = 0 := by
      apply Nat.eq_of_testBit_eq
      intro t
      rw [Nat.testBit_and, Nat.zero_testBit]
      have := h t
      cases h1 : a.testBit t <;> cases h2 : b.testBit t <;> simp_all
    rw [h3]; rfl
theorem wr_band {a b : Nat} (ha : a < 128) (hb : b < 128) : wr (band (a : Int) (b : Int)) = band (a : Int) (b : Int) := by
  rw [band_n (by omega) (by omega)]
  have : a &&& b ≤ a := Nat.and_le_left
  exact wr_small _ (by omega)
theorem lt128_bit {a : Nat} (h : a < 128) {t : Nat} (ht : a.testBit t = true) : t < 7 := by
  rcases Nat.lt_or_ge t 7 with h1 | h1
  · exact h1
  · have h2 : a < 2 ^ t := Nat.lt_of_lt_of_le h (Nat.pow_le_pow_right (n := 2) (by omega) h1)
    rw [Nat.testBit_lt_two_pow h2] at ht
    cases ht
theorem fouls_mask {w : Wd} (hO : OK w) {s : Int} (h0 : 0 ≤ s) (h1 : s < 7) (p : Int → Bool) : wr (band (w 13 s.toNat) ((maskI p (nS w) 0 : Nat) : Int)) = 0 ↔ anyI (fun t => p t && foul w s t) (nS w) 0 = false := by
  have hs := (hO.2.2.2.2.2.1 s h0 h1).2.2.2.2.2.2.2.1
  have hm := mask128 p (nS_le hO)
  have hf : w 13 s.toNat = (((w 13 s.toNat).toNat : Nat) : Int) := by omega
  rw [hf, wr_band (by omega) hm, band_mask (by omega) hm, ← Bool.not_eq_true, anyI_iff]
  constructor
  · rintro h ⟨k, a, b, c⟩
    simp only [Bool.and_eq_true] at c
    refine h k.toNat ⟨c.2, ?_⟩
    show (maskI p (nS w) ((0 : Nat) : Int)).testBit k.toNat = true
    rw [maskI_bit, decide_eq_true (by omega), Int.toNat_of_nonneg a, c.1]; rfl
  · intro h t ⟨a, b⟩
    apply h
    have b' : (maskI p (nS w) ((0 : Nat) : Int)).testBit t = true := b
    rw [maskI_bit] at b'
    simp only [Bool.and_eq_true, decide_eq_true_eq] at b'
    refine ⟨(t : Int), by omega, by omega, ?_⟩
    simp only [Bool.and_eq_true]
    exact ⟨b'.2, a⟩
theorem p_fou_2 {w : Wd} (hO : OK w) : ∀ (m n : Nat) (s : Int), 0 ≤ s → s + m = w 5 0 → m < n → x_firstFouling_2 n s w = some (findI (fouP w (rowOf w)) m s, w)
  | 0, n, s, h0, h1, h2 => by
    obtain ⟨n, rfl⟩ : ∃ n', n = n' + 1 := ⟨n - 1, by omega⟩
    have hN := hO.1
    rw [x_firstFouling_2]
    simp (disch := omega) only [wr_id, if_pos]
    rfl
  | m + 1, n, s, h0, h1, h2 => by
    obtain ⟨n, rfl⟩ : ∃ n', n = n' + 1 := ⟨n - 1, by omega⟩
    have hN := hO.1
    have hQ := hO.2.1
    have hs := (hO.2.2.2.2.2.1 s h0 (by omega)).2.2.2.2.2.2.2.2.1
    have ih := p_fou_2 hO m n (s + 1) (by omega) (by omega) (by omega)
    rw [x_firstFouling_2, p_hasQ (by omega) hQ]
    simp only [Option.bind_some]
    rw [p_berthedAt hO (by omega)]
    simp (disch := omega) only [wr_id, if_neg, if_pos, Option.bind_some, wr_bz, bz_eq0, ih, fouls_mask hO h0 (show s < 7 by omega)]
    rw [findI]
    unfold isQ
    by_cases c : w 14 s.toNat = -1
    · rw [if_pos (decide_eq_false (by omega))]
      have em : fouP w (rowOf w) s = false := by simp [fouP, c]
      simp only [em, Bool.false_eq_true, if_false]
    · rw [if_neg (by rw [decide_eq_true (by omega)]; decide)]
      have em : fouP w (rowOf w) s = anyI (fun t => decide (w 14 t.toNat = w 14 s.toNat) && foul w s t) (nS w) 0 := by simp [fouP, c]
      rw [em]
      cases d : anyI (fun t => decide (w 14 t.toNat = w 14 s.toNat) && foul w s t) (nS w) 0
      · simp only [Bool.false_eq_true, if_true, if_false]
      · simp only [Bool.true_eq_false, if_true, if_false]
theorem p_sho_2 {w : Wd} (hO : OK w) : ∀ (m n : Nat) (q : Int), 0 ≤ q → q + m = w 16 0 → m < n → x_firstTooShort_2 n q w = some (findI (shoP w (rowOf w)) m q, w)
  | 0, n, q, h0, h1, h2 => by
    obtain ⟨n, rfl⟩ : ∃ n', n = n' + 1 := ⟨n - 1, by omega⟩
    have hQ := hO.2.1
    rw [x_firstTooShort_2]
    simp (disch := omega) only [wr_id, if_pos]
    rfl
  | m + 1, n, q, h0, h1, h2 => by
    obtain ⟨n, rfl⟩ : ∃ n', n = n' + 1 := ⟨n - 1, by omega⟩
    have hQ := hO.2.1
    have ih := p_sho_2 hO m n (q + 1) (by omega) (by omega) (by omega)
    have hb := roomOf_bd hO (rowOf w) h0 (show q < 4 by omega)
    rw [x_firstTooShort_2, p_room hO h0 (by omega)]
    simp (disch := omega) only [wr_id, if_neg, Option.bind_some, ih]
    rw [findI]
    unfold shoP
    by_cases c : 0 ≤ roomOf w (rowOf w) q
    · rw [if_pos c, if_neg (by rw [decide_eq_false (by omega)]; decide)]
    · rw [if_neg c, if_pos (decide_eq_true (by omega))]
theorem p_wrong {w : Wd} (hO : OK w) : x_wrong w = some (wrongOf w (rowOf w), w) := by
  have hN := nS_i hO
  have hQ := nQ_i hO
  have h1 := hO.1
  have h2 := hO.2.1
  have a1 : x_firstMisplaced w = _ := p_mis_2 hO (nS w) FU 0 (by omega) (by omega) (by have := FU_big; unfold nS; omega)
  have a2 : x_firstFouling w = _ := p_fou_2 hO (nS w) FU 0 (by omega) (by omega) (by have := FU_big; unfold nS; omega)
  have a3 : x_firstTooShort w = _ := p_sho_2 hO (nQ w) FU 0 (by omega) (by omega) (by have := FU_big; unfold nQ; omega)
  have b1 := findI_bd2 (misP w (rowOf w)) (nS w) 0 (by omega)
  have b2 := findI_bd2 (fouP w (rowOf w)) (nS w) 0 (by omega)
  have b3 := findI_bd2 (shoP w (rowOf w)) (nQ w) 0 (by omega)
  unfold x_wrong wrongOf
  rw [a1]
  simp only [Option.bind_some]
  rw [a2]
  simp only [Option.bind_some]
  rw [a3]
  simp (disch := omega) only [Option.bind_some, wr_id]
  repeat' split
  all_goals rfl
/-! the reference -/
theorem q_why_2 {S w : Wd} (hO : OK S) (hM : RM S w) {c : Nat} {r : Int → Int} (hr : rowIn S w c r) (k : Wd → Option (Int × Wd)) : ∀ (m n : Nat) (s : Int), 0 ≤ s → s + m = S 5 0 → m < n → m_why_2 c k n s w = if findI (misP S r) m s = -1 then k w else some (10 + findI (misP S r) m s, w)
  | 0, n, s, h0, h1, h2 => by
    obtain ⟨n, rfl⟩ : ∃ n', n = n' + 1 := ⟨n - 1, by omega⟩
    have hN := hO.1
    rw [m_why_2, hM.1]
    simp (disch := omega) only [wr_id, if_pos]
    rfl
  | m + 1, n, s, h0, h1, h2 => by
    obtain ⟨n, rfl⟩ : ∃ n', n = n' + 1 := ⟨n - 1, by omega⟩
    have hN := hO.1
    have hQ := hO.2.1
    obtain ⟨z1, z2, z3⟩ := hr s h0 (by omega)
    have ih := q_why_2 hO hM hr k m n (s + 1) (by omega) (by omega) (by omega)
    rw [m_why_2, z1, hM.1]
    simp (disch := omega) only [wr_id, if_neg, if_pos, ih]
    rw [findI]
    by_cases c : r s = -1
    · have em : misP S r s = false := by simp [misP, c]
      simp only [c, em, Bool.false_eq_true, if_true, if_false]
    · have hh := hind_bd S s (r s)
      rw [if_neg c, q_whyNot hO hM h0 (by omega) (by omega) z3]
      simp (disch := omega) only [Option.bind_some, wr_id, ih]
      by_cases d : hind S s (r s) = 0
      · have em : misP S r s = false := by simp [misP, d]
        have d2 : hind S s (r s) ≤ 0 := by omega
        simp only [d2, em, Bool.false_eq_true, if_true, if_false]
      · have em : misP S r s = true := by simp [misP, c, d]
        have d2 : ¬ hind S s (r s) ≤ 0 := by omega
        have d3 : ¬ s = -1 := by omega
        simp only [d2, d3, em, if_true, if_false]
theorem q_why_51 {S w : Wd} (hO : OK S) (hM : RM S w) {c : Nat} {r : Int → Int} (hr : rowIn S w c r) {s : Int} (s0 : 0 ≤ s) (s1 : s < S 5 0) (k : Wd → Option (Int × Wd)) : ∀ (m n : Nat) (t : Int), 0 ≤ t → t + m = S 5 0 → m < n → m_why_51 c s k n t w = if (decide (r s ≠ -1) && anyI (fun t => decide (r t = r s) && foul S s t) m t) = true then some (20 + s, w) else k w
  | 0, n, t, h0, h1, h2 => by
    obtain ⟨n, rfl⟩ : ∃ n', n = n' + 1 := ⟨n - 1, by omega⟩
    have hN := hO.1
    rw [m_why_51, hM.1]
    simp (disch := omega) only [wr_id, if_pos]
    simp [anyI]
  | m + 1, n, t, h0, h1, h2 => by
    obtain ⟨n, rfl⟩ : ∃ n', n = n' + 1 := ⟨n - 1, by omega⟩
    have hN := hO.1
    have hQ := hO.2.1
    obtain ⟨z1, z2, z3⟩ := hr s s0 s1
    obtain ⟨y1, y2, y3⟩ := hr t h0 (by omega)
    have hf := hM.2.2.2.2.2.2.2.1 s t s0 (by omega) h0 (by omega)
    have ih := q_why_51 hO hM hr s0 s1 k m n (t + 1) (by omega) (by omega) (by omega)
    rw [m_why_51, z1, y1, hM.1, hf]
    simp (disch := omega) only [wr_id, if_neg, if_pos, ih]
    rw [anyI]
    by_cases c : r s = -1
    · rw [if_pos c]; simp [c]
    · rw [if_neg c]
      by_cases d : r t = r s
      · rw [if_pos d]
        cases e : foul S s t
        · simp [d, show wr 0 = 0 from rfl]
        · simp [d, c, show wr 1 = 1 from rfl]
      · rw [if_neg d]
        simp [c, d]
theorem q_why_41 {S w : Wd} (hO : OK S) (hM : RM S w) {c : Nat} {r : Int → Int} (hr : rowIn S w c r) (k : Wd → Option (Int × Wd)) : ∀ (m n : Nat) (s : Int), 0 ≤ s → s + m = S 5 0 → m < n → m_why_41 c k n s w = if findI (fouP S r) m s = -1 then k w else some (20 + findI (fouP S r) m s, w)
  | 0, n, s, h0, h1, h2 => by
    obtain ⟨n, rfl⟩ : ∃ n', n = n' + 1 := ⟨n - 1, by omega⟩
    have hN := hO.1
    rw [m_why_41, hM.1]
    simp (disch := omega) only [wr_id, if_pos]
    rfl
  | m + 1, n, s, h0, h1, h2 => by
    obtain ⟨n, rfl⟩ : ∃ n', n = n' + 1 := ⟨n - 1, by omega⟩
    have hN := hO.1
    have hn := nS_i hO
    have ih := q_why_41 hO hM hr k m n (s + 1) (by omega) (by omega) (by omega)
    rw [m_why_41, hM.1]
    simp (disch := omega) only [wr_id, if_neg]
    rw [q_why_51 hO hM hr h0 (by omega) _ (nS S) FU 0 (by omega) (by omega) (by have := FU_big; unfold nS; omega), ih, findI]
    rw [show (decide (r s ≠ -1) && anyI (fun t => decide (r t = r s) && foul S s t) (nS S) 0) = fouP S r s from rfl]
    have d3 : ¬ s = -1 := by omega
    cases d : fouP S r s
    · simp only [Bool.false_eq_true, if_false]
    · simp only [d3, if_true, if_false]
theorem q_why_108 {S w : Wd} (hO : OK S) (hM : RM S w) {c : Nat} {r : Int → Int} (hr : rowIn S w c r) : ∀ (m n : Nat) (q : Int), 0 ≤ q → q + m = S 16 0 → m < n → m_why_108 c n q w = some (if findI (shoP S r) m q = -1 then 0 else 30 + findI (shoP S r) m q, w)
  | 0, n, q, h0, h1, h2 => by
    obtain ⟨n, rfl⟩ : ∃ n', n = n' + 1 := ⟨n - 1, by omega⟩
    have hN := hO.2.1
    rw [m_why_108, hM.2.1]
    simp (disch := omega) only [wr_id, if_pos]
    rfl
  | m + 1, n, q, h0, h1, h2 => by
    obtain ⟨n, rfl⟩ : ∃ n', n = n' + 1 := ⟨n - 1, by omega⟩
    have hQ := hO.2.1
    have hb := roomOf_bd hO r h0 (show q < 4 by omega)
    have ih := q_why_108 hO hM hr m n (q + 1) (by omega) (by omega) (by omega)
    rw [m_why_108, hM.2.1, q_room hO hM hr h0 (by omega)]
    simp (disch := omega) only [wr_id, if_neg, Option.bind_some, ih]
    rw [findI]
    have d3 : ¬ q = -1 := by omega
    by_cases c : 0 ≤ roomOf S r q
    · have em : shoP S r q = false := decide_eq_false (by omega)
      simp only [c, em, Bool.false_eq_true, if_true, if_false]
    · have em : shoP S r q = true := decide_eq_true (by omega)
      simp only [c, d3, em, if_true, if_false]
theorem q_why {S w : Wd} (hO : OK S) (hM : RM S w) {c : Nat} {r : Int → Int} (hr : rowIn S w c r) : m_why c w = some (wrongOf S r, w) := by
  have hN := nS_i hO
  have hQ := nQ_i hO
  have h1 := hO.1
  have h2 := hO.2.1
  unfold m_why wrongOf
  rw [q_why_2 hO hM hr _ (nS S) FU 0 (by omega) (by omega) (by have := FU_big; unfold nS; omega), q_why_41 hO hM hr _ (nS S) FU 0 (by omega) (by omega) (by have := FU_big; unfold nS; omega), q_why_108 hO hM hr (nQ S) FU 0 (by omega) (by omega) (by have := FU_big; unfold nQ; omega)]
  repeat' split
  all_goals rfl
