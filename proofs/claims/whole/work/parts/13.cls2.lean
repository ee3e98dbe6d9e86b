/-! The class's simple methods, on. -/
theorem sumI_s (f : Int → Int) (m : Nat) (i : Int) : sumI f (m + 1) i = f i + sumI f m (i + 1) := rfl
noncomputable def bc (x : Int) : Int := match ji_bitCount x (fun _ _ => 0) with
  | some q => q.1
  | none => 0
theorem bc_eq (x : Int) (w : Wd) : ji_bitCount x w = some (bc x, w) := rfl
def pop (m : Nat) : Int := sumI (fun j => bz (m.testBit j.toNat)) 7 0
theorem bc_pop : ∀ m : Fin 128, bc ((m.val : Nat) : Int) = pop m.val := by decide +kernel
theorem p_bitCount {m : Nat} (h : m < 128) (w : Wd) : ji_bitCount (m : Int) w = some (pop m, w) := by
  rw [bc_eq, bc_pop ⟨m, h⟩]
theorem maskI_lt (p : Int → Bool) : ∀ (m k : Nat), maskI p m k < 2 ^ (k + m) ∧ 2 ^ k ∣ maskI p m k
  | 0, k => ⟨Nat.two_pow_pos _, ⟨0, rfl⟩⟩
  | m + 1, k => by
    have h := maskI_lt p m (k + 1)
    unfold maskI
    rw [show ((k : Int) + 1) = ((k + 1 : Nat) : Int) by omega, Int.toNat_natCast]
    obtain ⟨c, hc⟩ := h.2
    have h1 := h.1
    rw [hc] at h1 ⊢
    rw [show k + (m + 1) = k + 1 + m by omega]
    refine ⟨?_, ?_⟩
    · split
      · have e : 2 ^ (k + 1 + m) = 2 ^ (k + 1) * 2 ^ m := Nat.pow_add ..
        rw [e] at h1 ⊢
        have hc2 : c < 2 ^ m := Nat.lt_of_mul_lt_mul_left h1
        have h3 : 2 ^ (k + 1) * (c + 1) ≤ 2 ^ (k + 1) * 2 ^ m := Nat.mul_le_mul_left _ hc2
        rw [Nat.mul_add, Nat.mul_one] at h3
        have h4 : 2 ^ (k + 1) = 2 * 2 ^ k := by rw [Nat.pow_succ]; omega
        have h5 := Nat.two_pow_pos k
        omega
      · omega
    · split
      · exact ⟨1 + 2 * c, by rw [Nat.pow_succ, Nat.mul_add, Nat.mul_one, Nat.mul_assoc]⟩
      · exact ⟨2 * c, by rw [Nat.pow_succ, Nat.mul_assoc, Nat.zero_add]⟩
theorem maskI_bit (p : Int → Bool) : ∀ (m k j : Nat), (maskI p m k).testBit j = (decide (k ≤ j ∧ j < k + m) && p j)
  | 0, k, j => by
    rw [maskI, Nat.zero_testBit, decide_eq_false (by omega)]
    rfl
  | m + 1, k, j => by
    have hd := (maskI_lt p m (k + 1)).2
    have ih := maskI_bit p m (k + 1) j
    unfold maskI
    rw [show ((k : Int) + 1) = ((k + 1 : Nat) : Int) by omega, Int.toNat_natCast]
    generalize hx : maskI p m ((k + 1 : Nat) : Int) = x at hd ih ⊢
    obtain ⟨c, rfl⟩ := hd
    have key : ∀ b : Bool, ((if b = true then 2 ^ k else 0) + 2 ^ (k + 1) * c).testBit j = (if j < k then false else if j = k then b else (2 ^ (k + 1) * c).testBit j) := by
      intro b
      have h1 : (if b = true then 2 ^ k else 0) < 2 ^ (k + 1) := by
        have := Nat.two_pow_pos k
        rw [Nat.pow_succ]
        split <;> omega
      rw [Nat.add_comm, Nat.testBit_two_pow_mul_add _ h1, Nat.testBit_two_pow_mul]
      by_cases h2 : j < k
      · rw [if_pos h2, if_pos (by omega)]
        split
        · rw [Nat.testBit_two_pow]; simp; omega
        · simp
      · rw [if_neg h2]
        by_cases h3 : j = k
        · subst h3
          rw [if_pos rfl, if_pos (by omega)]
          cases b
          · simp
          · rw [if_pos rfl, Nat.testBit_two_pow_self]
        · rw [if_neg h3, if_neg (by omega)]
          simp
          omega
    rw [key (p k), ih]
    by_cases h2 : j < k
    · rw [if_pos h2, decide_eq_false (by omega)]; rfl
    · rw [if_neg h2]
      by_cases h3 : j = k
      · subst h3
        rw [if_pos rfl, decide_eq_true (by omega)]; rfl
      · rw [if_neg h3]
        congr 1
        by_cases h4 : k + 1 ≤ j ∧ j < k + 1 + m
        · rw [decide_eq_true h4, decide_eq_true (by omega)]
        · rw [decide_eq_false h4, decide_eq_false (by omega)]
theorem sumI_congr {f g : Int → Int} : ∀ (m : Nat) (i : Int), (∀ k, i ≤ k → k < i + m → f k = g k) → sumI f m i = sumI g m i
  | 0, _, _ => rfl
  | m + 1, i, h => by
    unfold sumI
    rw [h i (by omega) (by omega), sumI_congr m (i + 1) (fun k a b => h k (by omega) (by omega))]
theorem sumI_zero {f : Int → Int} : ∀ (m : Nat) (i : Int), (∀ k, i ≤ k → k < i + m → f k = 0) → sumI f m i = 0
  | 0, _, _ => rfl
  | m + 1, i, h => by
    unfold sumI
    rw [h i (by omega) (by omega), sumI_zero m (i + 1) (fun k a b => h k (by omega) (by omega))]
    rfl
theorem sumI_split {f : Int → Int} : ∀ (a b : Nat) (i : Int), sumI f (a + b) i = sumI f a i + sumI f b (i + a)
  | 0, b, i => by simp [sumI]
  | a + 1, b, i => by
    rw [show a + 1 + b = (a + b) + 1 by omega, sumI_s, sumI_s]
    rw [sumI_split a b (i + 1), show i + 1 + (a : Int) = i + ((a + 1 : Nat) : Int) by omega]
    omega
theorem sumI_bd {f : Int → Int} {lo hi : Int} : ∀ (m : Nat) (i : Int), (∀ k, i ≤ k → k < i + m → lo ≤ f k ∧ f k ≤ hi) → lo * m ≤ sumI f m i ∧ sumI f m i ≤ hi * m
  | 0, _, _ => by simp [sumI]
  | m + 1, i, h => by
    have h1 := h i (by omega) (by omega)
    have h2 := sumI_bd m (i + 1) (fun k a b => h k (by omega) (by omega))
    unfold sumI
    have e1 : lo * ((m + 1 : Nat) : Int) = lo * m + lo := by rw [Int.natCast_add, Int.mul_add]; simp
    have e2 : hi * ((m + 1 : Nat) : Int) = hi * m + hi := by rw [Int.natCast_add, Int.mul_add]; simp
    omega
/-- how many of the first n are p -/
def cnt (p : Int → Bool) (n : Nat) : Int := sumI (fun k => bz (p k)) n 0
theorem bz_bd (b : Bool) : 0 ≤ bz b ∧ bz b ≤ 1 := by cases b <;> decide
theorem cnt_bd (p : Int → Bool) (n : Nat) : 0 ≤ cnt p n ∧ cnt p n ≤ n := by
  have := sumI_bd (f := fun k => bz (p k)) (lo := 0) (hi := 1) n 0 (fun k _ _ => bz_bd _)
  unfold cnt
  omega
theorem pop_mask (p : Int → Bool) {n : Nat} (h : n ≤ 7) : pop (maskI p n 0) = cnt p n := by
  unfold pop cnt
  have e : 7 = n + (7 - n) := by omega
  rw [e, sumI_split, sumI_zero (7 - n), Int.add_zero]
  · refine sumI_congr n 0 (fun k a b => ?_)
    show bz ((maskI p n ((0 : Nat) : Int)).testBit k.toNat) = _
    rw [maskI_bit, decide_eq_true (by omega), Int.toNat_of_nonneg a, Bool.true_and]
  · intro k a b
    show bz ((maskI p n ((0 : Nat) : Int)).testBit k.toNat) = _
    rw [maskI_bit, decide_eq_false (by omega)]
    rfl
theorem mask128 (p : Int → Bool) {n : Nat} (h : n ≤ 7) : maskI p n 0 < 128 := by
  have h1 := (maskI_lt p n 0).1
  have h2 : 2 ^ (0 + n) ≤ 2 ^ 7 := Nat.pow_le_pow_right (by omega) (by omega)
  show maskI p n ((0 : Nat) : Int) < 128
  omega
theorem nS_le {w : Wd} (hO : OK w) : nS w ≤ 7 := by have := hO.1; unfold nS; omega
theorem nQ_le {w : Wd} (hO : OK w) : nQ w ≤ 4 := by have := hO.2.1; unfold nQ; omega
theorem nS_i {w : Wd} (hO : OK w) : ((nS w : Nat) : Int) = w 5 0 := by have := hO.1; unfold nS; omega
theorem nQ_i {w : Wd} (hO : OK w) : ((nQ w : Nat) : Int) = w 16 0 := by have := hO.2.1; unfold nQ; omega
/-- the show of the ship s that lies at r -/
def show1 (S : Wd) (s r : Int) : Int := if r = -1 then 0 else S 9 s.toNat * S 20 r.toNat
theorem mul_bd {a b A B : Int} (a0 : 0 ≤ a) (a1 : a ≤ A) (b0 : 0 ≤ b) (b1 : b ≤ B) : 0 ≤ a * b ∧ a * b ≤ A * B :=
  ⟨Int.mul_nonneg a0 b0, Int.mul_le_mul a1 b1 b0 (Int.le_trans a0 a1)⟩
theorem show1_bd {S : Wd} (hO : OK S) {s r : Int} (s0 : 0 ≤ s) (s1 : s < 7) (r0 : -1 ≤ r) (r1 : r < 4) : 0 ≤ show1 S s r ∧ show1 S s r ≤ 1000 := by
  have hs := hO.2.2.2.2.2.1 s s0 s1
  unfold OKs at hs
  unfold show1
  split
  · omega
  · have hq := hO.2.2.2.2.2.2.1 r (by omega) r1
    unfold OKq at hq
    have := mul_bd (A := 100) (B := 10) hs.2.2.2.1.1 hs.2.2.2.1.2 hq.2.2.2.1.1 hq.2.2.2.1.2
    omega
theorem p_showAt {w : Wd} (hO : OK w) {s r : Int} (s0 : 0 ≤ s) (s1 : s < 7) (r0 : -1 ≤ r) (r1 : r < w 16 0) : x_showAt s r w = some (show1 w s r, w) := by
  have hQ := hO.2.1
  unfold x_showAt show1
  rw [p_hasQ (by omega) hQ]
  simp only [Option.bind_some, wr_bz, bz_eq0]
  unfold isQ
  by_cases h : r = -1
  · rw [if_pos h, if_pos (decide_eq_false (by omega))]
  · rw [if_neg h, if_neg (by rw [decide_eq_true (by omega)]; decide), if_pos ⟨s0, s1⟩, if_pos (by omega)]
theorem p_showOf_4 {w : Wd} (hO : OK w) : ∀ (m n : Nat) (a s : Int), 0 ≤ s → s + m = w 5 0 → m < n → x_showOfBerths_4 n a s w = some (a + sumI (fun k => show1 w k (w 14 k.toNat)) m s, w)
  | 0, n, a, s, h0, h1, h2 => by
    obtain ⟨n, rfl⟩ : ∃ n', n = n' + 1 := ⟨n - 1, by omega⟩
    have hN := hO.1
    rw [x_showOfBerths_4]
    simp (disch := omega) only [wr_id, if_pos]
    simp [sumI]
  | m + 1, n, a, s, h0, h1, h2 => by
    obtain ⟨n, rfl⟩ : ∃ n', n = n' + 1 := ⟨n - 1, by omega⟩
    have hN := hO.1
    have hs := hO.2.2.2.2.2.1 s h0 (by omega)
    unfold OKs at hs
    rw [x_showOfBerths_4]
    simp (disch := omega) only [wr_id, if_neg, if_pos]
    rw [p_showAt hO h0 (by omega) hs.2.2.2.2.2.2.2.2.1.1 hs.2.2.2.2.2.2.2.2.1.2]
    simp only [Option.bind_some]
    rw [p_showOf_4 hO m n _ (s + 1) (by omega) (by omega) (by omega), sumI_s, Int.add_assoc]
def showAll (S : Wd) (r : Int → Int) : Int := sumI (fun k => show1 S k (r k)) (nS S) 0
abbrev rowOf (S : Wd) : Int → Int := fun k => S 14 k.toNat
theorem p_showOf {w : Wd} (hO : OK w) : x_showOfBerths w = some (showAll w (rowOf w), w) := by
  unfold x_showOfBerths
  have hN := nS_i hO
  have := hO.1
  rw [p_showOf_4 hO (nS w) FU 0 0 (by omega) (by omega) (by have := FU_big; unfold nS; omega), Int.zero_add]
  rfl
theorem p_count {w : Wd} (hO : OK w) {a : Int} (ha : R32 a) : x_count a w = some (if a = 0 then w 5 0 else if a = 1 then w 16 0 else if a = 2 then cnt (bth w) (nS w) else if a = 3 then showAll w (rowOf w) else if a = 4 then least w else if a = 5 then great w else -1, w) := by
  unfold x_count
  rw [wr_id ha.1 ha.2, p_berthed hO, p_showOf hO, p_least hO.2.2.1, p_great hO.2.2.1]
  simp only [Option.bind_some]
  rw [p_bitCount (mask128 _ (nS_le hO))]
  simp only [Option.bind_some]
  rw [pop_mask _ (nS_le hO)]
  repeat' split
  all_goals first | rfl | (exfalso; omega)
