/-! The cost of a berth, and tables over sets of ships. -/
theorem lshl_i {a b : Int} (a0 : 0 ≤ a) (b0 : 0 ≤ b) (b1 : b < 64) (h : a * 2 ^ b.toNat < 9223372036854775808) : lshl a b = a * 2 ^ b.toNat := by
  obtain ⟨x, rfl⟩ := Int.eq_ofNat_of_zero_le a0
  obtain ⟨y, rfl⟩ := Int.eq_ofNat_of_zero_le b0
  rw [Int.toNat_natCast] at h ⊢
  have e : (((x * 2 ^ y : Nat)) : Int) = (x : Int) * 2 ^ y := by rw [Int.natCast_mul, Int.natCast_pow]; rfl
  rw [← e] at h ⊢
  exact lshl_n (by omega) (by omega)
theorem lshr_i {a b : Int} (a0 : 0 ≤ a) (b0 : 0 ≤ b) (b1 : b < 64) (h : a < 9223372036854775808) : lshr a b = a / 2 ^ b.toNat := by
  obtain ⟨x, rfl⟩ := Int.eq_ofNat_of_zero_le a0
  obtain ⟨y, rfl⟩ := Int.eq_ofNat_of_zero_le b0
  rw [Int.toNat_natCast]
  have e : (((x / 2 ^ y : Nat)) : Int) = (x : Int) / 2 ^ y := by rw [Int.natCast_ediv, Int.natCast_pow]; rfl
  rw [← e]
  exact lshr_n (by omega) (by omega)
def chz (q : Int) : Int := if q = -1 then 4 else q
def pw (s : Int) : Int := 2 ^ (3 * (6 - s)).toNat
def bcost (S : Wd) (near : Bool) (s q : Int) : Int := chz q * pw s + (1000 - show1 S s q) * 2097152 + bz (near && decide (q ≠ S 14 s.toNat)) * 17179869184 + bz (decide (q = -1)) * 137438953472
theorem pw_bd {s : Int} (s0 : 0 ≤ s) (s1 : s < 7) : 1 ≤ pw s ∧ pw s ≤ 262144 := by
  have : s = 0 ∨ s = 1 ∨ s = 2 ∨ s = 3 ∨ s = 4 ∨ s = 5 ∨ s = 6 := by omega
  rcases this with rfl | rfl | rfl | rfl | rfl | rfl | rfl <;> decide
theorem chz_bd {q : Int} (q0 : -1 ≤ q) (q1 : q < 4) : 0 ≤ chz q ∧ chz q ≤ 4 := by unfold chz; split <;> omega
theorem bcost_bd {S : Wd} (hO : OK S) {near : Bool} {s q : Int} (s0 : 0 ≤ s) (s1 : s < 7) (q0 : -1 ≤ q) (q1 : q < 4) : 0 ≤ bcost S near s q ∧ bcost S near s q ≤ 157000000000 := by
  have h1 := pw_bd s0 s1
  have h2 := chz_bd q0 q1
  have h3 := show1_bd hO s0 s1 q0 q1
  have h4 := mul_bd h2.1 h2.2 (Int.le_trans (by decide) h1.1) h1.2
  have h5 := bz_bd (near && decide (q ≠ S 14 s.toNat))
  have h6 := bz_bd (decide (q = -1))
  unfold bcost
  omega
theorem p_berthCost {w : Wd} (hO : OK w) {near : Bool} {s q : Int} (s0 : 0 ≤ s) (s1 : s < 7) (q0 : -1 ≤ q) (q1 : q < w 16 0) : x_berthCost s q (bz near) w = some (bcost w near s q, w) := by
  have hQ := hO.2.1
  have h1 := pw_bd s0 s1
  have h2 := chz_bd q0 (show q < 4 by omega)
  have h3 := show1_bd hO s0 s1 q0 (show q < 4 by omega)
  have h4 := mul_bd h2.1 h2.2 (Int.le_trans (by decide) h1.1) h1.2
  have hs := (hO.2.2.2.2.2.1 s s0 s1).2.2.2.2.2.2.2.2.1
  have e1 : lshl (chz q) (3 * (6 - s)) = chz q * pw s := lshl_i h2.1 (by omega) (by omega) (by unfold pw at h4; omega)
  have e2 : lshl (1000 - show1 w s q) 21 = (1000 - show1 w s q) * 2097152 := by
    exact lshl_i (by omega) (by omega) (by omega) (by show (1000 - show1 w s q) * 2097152 < _; omega)
  have e3 : ∀ b : Bool, lshl (bz b) 34 = bz b * 17179869184 := fun b => by cases b <;> decide
  have e4 : ∀ b : Bool, lshl (bz b) 37 = bz b * 137438953472 := fun b => by cases b <;> decide
  have key : ∀ z13 z50 z62 : Int, z13 = chz q → z50 = bz (near && decide (q ≠ w 14 s.toNat)) → z62 = bz (decide (q = -1)) → lshl z13 (3 * (6 - s)) + lshl (1000 - show1 w s q) 21 + lshl z50 34 + lshl z62 37 = bcost w near s q := by
    rintro _ _ _ rfl rfl rfl
    rw [e1, e2, e3, e4]
    rfl
  unfold x_berthCost x_lowShift
  rw [p_showAt hO s0 s1 q0 q1]
  simp (disch := omega) only [Option.bind_some, wr_bz, bz_eq0, wr_id, if_pos]
  by_cases c1 : q = -1
  · simp only [c1, if_true]
    by_cases c2 : near = false
    · rw [if_pos c2]
      rw [← c1, key 4 0 1 (by simp [chz, c1]) (by simp [c2, bz]) (by simp [c1, bz])]
    · rw [if_neg c2]
      have c2' : near = true := by simpa using c2
      by_cases c3 : -1 = w 14 s.toNat
      · rw [if_pos c3, ← c1, key 4 0 1 (by simp [chz, c1]) (by simp [c1, c3, bz]) (by simp [c1, bz])]
      · rw [if_neg c3, ← c1, key 4 1 1 (by simp [chz, c1]) (by simp [c1, c2', c3, bz]) (by simp [c1, bz])]
  · simp only [c1, if_false]
    by_cases c2 : near = false
    · rw [if_pos c2, key q 0 0 (by simp [chz, c1]) (by simp [c2, bz]) (by simp [c1, bz])]
    · rw [if_neg c2]
      have c2' : near = true := by simpa using c2
      by_cases c3 : q = w 14 s.toNat
      · rw [if_pos c3, key q 0 0 (by simp [chz, c1]) (by simp [c3, bz]) (by simp [c1, bz])]
      · rw [if_neg c3, key q 1 0 (by simp [chz, c1]) (by simp [c2', c3, bz]) (by simp [c1, bz])]
/-- a table over sets: a set's greatest member is taken off -/
def mt (g : Nat → Nat → Int → Int) : Nat → Nat → Int
  | 0, _ => 0
  | s + 1, A => if A < 2 ^ s then mt g s A else g s (A - 2 ^ s) (mt g s (A - 2 ^ s))
theorem mt_low {g : Nat → Nat → Int → Int} {s A : Nat} (h : A < 2 ^ s) : mt g (s + 1) A = mt g s A := by rw [mt, if_pos h]
theorem mt_up {g : Nat → Nat → Int → Int} {A : Nat} : ∀ (d s : Nat), A < 2 ^ s → mt g (s + d) A = mt g s A
  | 0, _, _ => rfl
  | d + 1, s, h => by
    rw [show s + (d + 1) = (s + d) + 1 by omega, mt_low (Nat.lt_of_lt_of_le h (Nat.pow_le_pow_right (by omega) (by omega))), mt_up d s h]
theorem mt_high {g : Nat → Nat → Int → Int} {s r : Nat} (h : r < 2 ^ s) : mt g (s + 1) (2 ^ s + r) = g s r (mt g s r) := by
  rw [mt, if_neg (by omega), Nat.add_sub_cancel_left]
theorem bor_rest {s r : Nat} (hs : s < 7) (hr : r < 2 ^ s) : bor (bshl 1 (s : Int)) (r : Int) = ((2 ^ s + r : Nat) : Int) := by
  have h2 : 2 ^ s < 2 ^ 8 := Nat.pow_lt_pow_right (by omega) (by omega)
  rw [show (1 : Int) = ((1 : Nat) : Int) from rfl, bshl_n (by omega) (by omega), bor_n (by omega) (by omega), Nat.one_mul]
  have := Nat.two_pow_add_eq_or_of_lt hr 1
  rw [Nat.mul_one] at this
  rw [this]
theorem bshl_pow {s : Nat} (hs : s < 8) : bshl 1 (s : Int) = ((2 ^ s : Nat) : Int) := by
  have h2 : 2 ^ s < 2 ^ 8 := Nat.pow_lt_pow_right (by omega) hs
  rw [show (1 : Int) = ((1 : Nat) : Int) from rfl, bshl_n (by omega) (by omega), Nat.one_mul]
theorem pow7 {s : Nat} (hs : s < 7) : 2 ^ s + 2 ^ s ≤ 128 := by
  have h2 : 2 ^ (s + 1) ≤ 2 ^ 7 := Nat.pow_le_pow_right (by omega) (by omega)
  rw [Nat.pow_succ] at h2
  omega
def gSum (f : Nat → Int) : Nat → Nat → Int → Int := fun s _ x => x + f s
theorem p_idle_36 {c4 : Int} {a b : Int} {s : Nat} (hs : s < 7) (f : Nat → Int) (hf : f s = c4) (k : Wd → Option (Int × Wd)) : ∀ (m n r : Nat) (w : Wd), r + m = 2 ^ s → m < n → (∀ A, A < 2 ^ s → w 22 A = mt (gSum f) s A) → (∀ i, i < r → w 22 (2 ^ s + i) = mt (gSum f) (s + 1) (2 ^ s + i)) → ∃ w', x_startIdle_36 a b (bshl 1 (s : Int)) c4 k n (r : Int) w = k w' ∧ (∀ c, c ≠ 22 → w' c = w c) ∧ ∀ A, A < 2 ^ (s + 1) → w' 22 A = mt (gSum f) (s + 1) A
  | 0, n, r, w, h1, h2, h3, h4 => by
    obtain ⟨n, rfl⟩ : ∃ n', n = n' + 1 := ⟨n - 1, by omega⟩
    have hp := pow7 hs
    refine ⟨w, ?_, fun c _ => rfl, fun A hA => ?_⟩
    · rw [x_startIdle_36, bshl_pow (by omega)]
      simp (disch := omega) only [wr_id]
      rw [if_pos (by omega)]
    · by_cases e : A < 2 ^ s
      · rw [mt_low e]; exact h3 A e
      · rw [Nat.pow_succ] at hA
        have := h4 (A - 2 ^ s) (by omega)
        rw [show 2 ^ s + (A - 2 ^ s) = A by omega] at this
        exact this
  | m + 1, n, r, w, h1, h2, h3, h4 => by
    obtain ⟨n, rfl⟩ : ∃ n', n = n' + 1 := ⟨n - 1, by omega⟩
    have hp := pow7 hs
    have hr : r < 2 ^ s := by omega
    have e1 : x_startIdle_36 a b (bshl 1 (s : Int)) c4 k (n + 1) (r : Int) w = x_startIdle_36 a b (bshl 1 (s : Int)) c4 k n ((r + 1 : Nat) : Int) (wset w 22 (2 ^ s + r) (mt (gSum f) s r + f s)) := by
      rw [x_startIdle_36, bor_rest hs hr, bshl_pow (by omega)]
      simp (disch := omega) only [wr_id, Int.toNat_natCast]
      rw [if_neg (by omega), if_pos (by omega), if_pos (by omega), h3 r hr, hf]
      rfl
    obtain ⟨w', g1, g2, g3⟩ := p_idle_36 hs f hf k m n (r + 1) (wset w 22 (2 ^ s + r) (mt (gSum f) s r + f s)) (by omega) (by omega)
      (fun A hA => by rw [wset_at, if_neg (by omega)]; exact h3 A hA)
      (fun i hi => by
        rw [wset_at]
        by_cases e : i = r
        · subst e; rw [if_pos rfl, mt_high hr]; rfl
        · rw [if_neg (by omega)]; exact h4 i (by omega))
    exact ⟨w', by rw [e1, g1], fun c hc => by rw [g2 c hc, wset_far c hc], g3⟩
theorem OK_c {w w' : Wd} (h : OK w) (ho : ∀ c, 2 ≤ c → c ≤ 21 → w' c = w c) : OK w' := by
  unfold OK OKs OKq OKe foul at h ⊢
  simp (disch := omega) only [ho]
  exact h
theorem bcost_c {w w' : Wd} (ho : ∀ c, 2 ≤ c → c ≤ 21 → w' c = w c) (near : Bool) (s q : Int) : bcost w' near s q = bcost w near s q := by
  unfold bcost show1
  simp (disch := omega) only [ho]
theorem p_idle_9 {S : Wd} (hO : OK S) {near : Bool} : ∀ (m n s : Nat) (w : Wd), (s : Int) + m = S 5 0 → m < n → (∀ c, 2 ≤ c → c ≤ 21 → w c = S c) → (∀ A, A < 2 ^ s → w 22 A = mt (gSum (fun t => bcost S near t (-1))) s A) → ∃ w', x_startIdle_9 (bz near) n (s : Int) w = some (0, w') ∧ (∀ c, c ≠ 22 → w' c = w c) ∧ ∀ A, A < 2 ^ nS S → w' 22 A = mt (gSum (fun t => bcost S near t (-1))) (nS S) A
  | 0, n, s, w, h1, h2, h3, h4 => by
    obtain ⟨n, rfl⟩ : ∃ n', n = n' + 1 := ⟨n - 1, by omega⟩
    have hN := hO.1
    refine ⟨w, ?_, fun c _ => rfl, ?_⟩
    · rw [x_startIdle_9, h3 5 (by omega) (by omega)]
      simp (disch := omega) only [wr_id, if_pos]
    · rw [show nS S = s by unfold nS; omega]
      exact h4
  | m + 1, n, s, w, h1, h2, h3, h4 => by
    obtain ⟨n, rfl⟩ : ∃ n', n = n' + 1 := ⟨n - 1, by omega⟩
    have hN := hO.1
    have hQ := hO.2.1
    have hOw := OK_c hO h3
    obtain ⟨w1, g1, g2, g3⟩ := p_idle_36 (c4 := bcost S near s (-1)) (a := bz near) (b := (s : Int)) (s := s) (by omega) (fun t => bcost S near t (-1)) rfl (fun w67 => x_startIdle_9 (bz near) n ((s : Int) + 1) w67) (2 ^ s) FU 0 w (by omega) (by have := pow7 (s := s) (by omega); have := FU_big; omega) h4 (fun i hi => by omega)
    obtain ⟨w', f1, f2, f3⟩ := p_idle_9 hO (near := near) m n (s + 1) w1 (by omega) (by omega) (fun c a b => by rw [g2 c (by omega)]; exact h3 c a b) g3
    refine ⟨w', ?_, fun c hc => by rw [f2 c hc, g2 c hc], f3⟩
    rw [x_startIdle_9, h3 5 (by omega) (by omega), p_berthCost hOw (by omega) (by omega) (by omega) (by rw [h3 16 (by omega) (by omega)]; omega), bcost_c h3]
    simp (disch := omega) only [wr_id, Option.bind_some]
    rw [if_neg (by omega)]
    rw [show ((0 : Nat) : Int) = 0 from rfl] at g1
    exact g1.trans f1
/-- the sum of f over the members of a set -/
def ssum (f : Int → Int) (n : Nat) (A : Nat) : Int := sumI (fun s => if A.testBit s.toNat then f s else 0) n 0
theorem sumI_last (f : Int → Int) (m : Nat) (i : Int) : sumI f (m + 1) i = sumI f m i + f (i + m) := by
  have := sumI_split (f := f) m 1 i
  rw [this, sumI_s]
  simp [sumI]
theorem ssum_s (f : Int → Int) (n A : Nat) : ssum f (n + 1) A = ssum f n A + if A.testBit n then f n else 0 := by
  unfold ssum
  rw [sumI_last, Int.zero_add]
  rfl
theorem ssum_cut {f : Int → Int} {n A B : Nat} (h : ∀ t, t < n → A.testBit t = B.testBit t) : ssum f n A = ssum f n B := by
  unfold ssum
  refine sumI_congr n 0 (fun k a b => ?_)
  rw [h k.toNat (by omega)]
theorem mt_sum (f : Int → Int) : ∀ (s A : Nat), A < 2 ^ s → mt (gSum (fun t => f t)) s A = ssum f s A
  | 0, A, _ => rfl
  | s + 1, A, h => by
    rw [Nat.pow_succ] at h
    rw [ssum_s]
    by_cases e : A < 2 ^ s
    · rw [mt_low e, mt_sum f s A e, Nat.testBit_lt_two_pow e]
      simp
    · obtain ⟨r, rfl⟩ : ∃ r, A = 2 ^ s + r := ⟨A - 2 ^ s, by omega⟩
      rw [mt_high (by omega), mt_sum f s r (by omega), Nat.testBit_two_pow_add_eq, Nat.testBit_lt_two_pow (show r < 2 ^ s by omega)]
      simp only [Bool.not_false, if_true, gSum]
      congr 1
      refine ssum_cut (fun t ht => ?_)
      rw [Nat.testBit_two_pow_add_gt ht]
