/-! The reference's search. -/
theorem q_moved_4 {S w : Wd} (hO : OK S) (hM : RM S w) {c : Nat} {r : Int → Int} (hr : rowIn S w c r) : ∀ (m n : Nat) (a s : Int), 0 ≤ s → s + m = S 5 0 → m < n → m_moved_4 c n a s w = some (a + sumI (fun t => bz (decide (r t ≠ S 14 t.toNat))) m s, w)
  | 0, n, a, s, h0, h1, h2 => by
    obtain ⟨n, rfl⟩ : ∃ n', n = n' + 1 := ⟨n - 1, by omega⟩
    have hN := hO.1
    rw [m_moved_4, hM.1, wr_id (by omega) (by omega), wr_id (by omega) (by omega), if_pos (by omega)]
    simp [sumI]
  | m + 1, n, a, s, h0, h1, h2 => by
    obtain ⟨n, rfl⟩ : ∃ n', n = n' + 1 := ⟨n - 1, by omega⟩
    have hN := hO.1
    have hQ := hO.2.1
    obtain ⟨z1, z2, z3⟩ := hr s h0 (by omega)
    have hs := (hO.2.2.2.2.2.1 s h0 (by omega)).2.2.2.2.2.2.2.2.1
    have e33 := (hM.2.2.2.2.2.2.2.2 s h0 (by omega)).1
    have ih := fun a => q_moved_4 hO hM hr m n a (s + 1) (by omega) (by omega) (by omega)
    rw [m_moved_4, z1, hM.1, e33]
    simp (disch := omega) only [wr_id, if_neg, if_pos, ih]
    rw [sumI_s]
    by_cases c : r s = S 14 s.toNat
    · rw [if_pos c, decide_eq_false (by simpa using c), show bz false = 0 from rfl, Int.zero_add]
    · rw [if_neg c, decide_eq_true c, show bz true = 1 from rfl, Int.add_assoc]
theorem q_moved {S w : Wd} (hO : OK S) (hM : RM S w) {c : Nat} {r : Int → Int} (hr : rowIn S w c r) : m_moved c w = some (movedN S r, w) := by
  have hn := nS_i hO
  have hn7 := nS_le hO
  unfold m_moved
  rw [q_moved_4 hO hM hr (nS S) FU 0 0 (by omega) (by omega) (by have := FU_big; omega), Int.zero_add]
  rfl
theorem q_search_12 {S : Wd} (hO : OK S) {x1 s : Int} (s0 : 0 ≤ s) (s1 : s < S 5 0) (k : Wd → Option (Int × Wd)) : ∀ (m n : Nat) (q : Int) (w : Wd), 0 ≤ q → q + m = S 16 0 → m < n → RM S w → ∃ w', m_search_12 x1 s k n q w = k w' ∧ (∀ c, c ≠ 37 → w' c = w c) ∧ (∀ p : Int, q ≤ p → p < S 16 0 → w' 37 (4 * s + p).toNat = bz (decide (hind S s p = 0))) ∧ (∀ j : Nat, ((j : Int) < 4 * s + q ∨ 4 * s + 4 ≤ (j : Int)) → w' 37 j = w 37 j)
  | 0, n, q, w, h0, h1, h2, hM => by
    obtain ⟨n, rfl⟩ : ∃ n', n = n' + 1 := ⟨n - 1, by omega⟩
    have hQ := hO.2.1
    refine ⟨w, ?_, fun c _ => rfl, fun p a b => by omega, fun j _ => rfl⟩
    rw [m_search_12, hM.2.1, wr_id (by omega) (by omega), wr_id (by omega) (by omega), if_pos (by omega)]
  | m + 1, n, q, w, h0, h1, h2, hM => by
    obtain ⟨n, rfl⟩ : ∃ n', n = n' + 1 := ⟨n - 1, by omega⟩
    have hN := hO.1
    have hQ := hO.2.1
    have hh := hind_bd S s q
    obtain ⟨w', a1, a2, a3, a4⟩ := q_search_12 hO (x1 := x1) s0 s1 k m n (q + 1) (wset w 37 (4 * s + q).toNat (bz (decide (hind S s q = 0)))) (by omega) (by omega) (by omega) (RM_w hM ⟨by rw [wset_far 26 (by decide)], by rw [wset_far 26 (by decide)]⟩ (fun c _ _ => wset_far c (by omega)))
    refine ⟨w', ?_, fun c hc => by rw [a2 c hc, wset_far c hc], fun p a b => ?_, fun j hj => by rw [a4 j (by omega), wset_at, if_neg (by omega)]⟩
    · rw [m_search_12, hM.2.1, q_whyNot hO hM s0 s1 h0 (by omega)]
      simp only [Option.bind_some]
      rw [wr_id (x := S 16 0) (by omega) (by omega), wr_id (x := q) (by omega) (by omega), wr_id (x := hind S s q) (by omega) (by omega), if_neg (by omega)]
      have f1 : 0 ≤ 4 * s + q ∧ 4 * s + q < 28 := by omega
      by_cases c : hind S s q = 0
      · rw [if_pos c, if_pos ⟨f1, by simp⟩]
        rw [decide_eq_true c] at a1
        exact a1
      · rw [if_neg c, if_pos ⟨f1, by simp⟩]
        rw [decide_eq_false c] at a1
        exact a1
    · by_cases e : p = q
      · subst e
        rw [a4 _ (by omega), wset_at, if_pos rfl]
      · exact a3 p (by omega) b
theorem q_search_2 {S : Wd} (hO : OK S) {x1 : Int} (k : Wd → Option (Int × Wd)) : ∀ (m n : Nat) (s : Int) (w : Wd), 0 ≤ s → s + m = S 5 0 → m < n → RM S w → (∀ t q : Int, 0 ≤ t → t < s → 0 ≤ q → q < S 16 0 → w 37 (4 * t + q).toNat = bz (decide (hind S t q = 0))) → ∃ w', m_search_2 x1 k n s w = k w' ∧ (∀ c, c ≠ 37 → w' c = w c) ∧ lieIn S w'
  | 0, n, s, w, h0, h1, h2, hM, hl => by
    obtain ⟨n, rfl⟩ : ∃ n', n = n' + 1 := ⟨n - 1, by omega⟩
    have hN := hO.1
    refine ⟨w, ?_, fun c _ => rfl, fun t q a b c d => hl t q a (by omega) c d⟩
    rw [m_search_2, hM.1, wr_id (by omega) (by omega), wr_id (by omega) (by omega), if_pos (by omega)]
  | m + 1, n, s, w, h0, h1, h2, hM, hl => by
    obtain ⟨n, rfl⟩ : ∃ n', n = n' + 1 := ⟨n - 1, by omega⟩
    have hN := hO.1
    have hQ := hO.2.1
    have hq := nQ_i hO
    obtain ⟨w1, a1, a2, a3, a4⟩ := q_search_12 hO (x1 := x1) h0 (show s < S 5 0 by omega) (fun w50 => m_search_2 x1 k n (s + 1) w50) (nQ S) FU 0 w (by omega) (by omega) (by have := FU_big; have := nQ_le hO; omega) hM
    obtain ⟨w', b1, b2, b3⟩ := q_search_2 hO (x1 := x1) k m n (s + 1) w1 (by omega) (by omega) (by omega) (RM_w hM ⟨by rw [a2 26 (by decide)], by rw [a2 26 (by decide)]⟩ (fun c _ _ => a2 c (by omega))) (fun t q t0 t1 q0 q1 => by
      by_cases e : t = s
      · subst e; exact a3 q q0 q1
      · rw [a4 _ (by omega)]; exact hl t q t0 (by omega) q0 q1)
    refine ⟨w', ?_, fun c hc => by rw [b2 c hc, a2 c hc], b3⟩
    rw [m_search_2, hM.1, wr_id (by omega) (by omega), wr_id (by omega) (by omega), if_neg (by omega), a1, b1]
theorem q_search_60 {S w : Wd} (hO : OK S) (hM : RM S w) {x1 : Int} (k : Int → Wd → Option (Int × Wd)) : ∀ (m n : Nat) (x s : Int), 0 ≤ s → s + m = S 5 0 → m < n → m_search_60 x1 k n x s w = k (x * (S 16 0 + 1) ^ m) w
  | 0, n, x, s, h0, h1, h2 => by
    obtain ⟨n, rfl⟩ : ∃ n', n = n' + 1 := ⟨n - 1, by omega⟩
    have hN := hO.1
    rw [m_search_60, hM.1, wr_id (by omega) (by omega), wr_id (by omega) (by omega), if_pos (by omega)]
    simp
  | m + 1, n, x, s, h0, h1, h2 => by
    obtain ⟨n, rfl⟩ : ∃ n', n = n' + 1 := ⟨n - 1, by omega⟩
    have hN := hO.1
    rw [m_search_60, hM.1, hM.2.1, wr_id (by omega) (by omega), wr_id (by omega) (by omega), if_neg (by omega), q_search_60 hO hM k m n _ (s + 1) (by omega) (by omega) (by omega), Int.pow_succ]
    congr 1
    rw [Int.mul_assoc, Int.mul_comm (S 16 0 + 1)]
def decQ (Q d : Nat) : Int := if d = Q then -1 else (d : Int)
def rk (S : Wd) (k : Nat) : Int → Int := fun s => decQ (nQ S) (k / (nQ S + 1) ^ (nS S - 1 - s.toNat) % (nQ S + 1))
theorem rk_in (S : Wd) (hO : OK S) (k : Nat) : inR S (rk S k) := by
  intro s _ _
  have hq := nQ_i hO
  unfold rk decQ
  have := Nat.mod_lt (k / (nQ S + 1) ^ (nS S - 1 - s.toNat)) (show 0 < nQ S + 1 by omega)
  split <;> omega
theorem q_search_115 {S : Wd} (hO : OK S) {x1 x2 x3 x4 x5 x6 x7 : Int} (k : Wd → Option (Int × Wd)) : ∀ (m n left : Nat) (w : Wd), m ≤ 7 → m < n → left < 2147483648 → w 26 6 = S 16 0 → ∃ w', m_search_115 x1 x2 x3 x4 x5 x6 x7 k n (left : Int) ((m : Int) - 1) w = k w' ∧ (∀ c, c ≠ 35 → w' c = w c) ∧ (∀ j : Nat, j < m → w' 35 j = decQ (nQ S) (left / (nQ S + 1) ^ (m - 1 - j) % (nQ S + 1))) ∧ (∀ j : Nat, m ≤ j → w' 35 j = w 35 j)
  | 0, n, left, w, h0, h1, h2, h26 => by
    obtain ⟨n, rfl⟩ : ∃ n', n = n' + 1 := ⟨n - 1, by omega⟩
    refine ⟨w, ?_, fun c _ => rfl, fun j hj => by omega, fun j _ => rfl⟩
    rw [m_search_115, wr_id (by omega) (by omega), if_pos (by omega)]
  | m + 1, n, left, w, h0, h1, h2, h26 => by
    obtain ⟨n, rfl⟩ : ∃ n', n = n' + 1 := ⟨n - 1, by omega⟩
    have hQ := hO.2.1
    have hq := nQ_i hO
    have hmod := Nat.mod_lt left (show 0 < nQ S + 1 by omega)
    have hdiv : left / (nQ S + 1) ≤ left := Nat.div_le_self _ _
    have eB : S 16 0 + 1 = ((nQ S + 1 : Nat) : Int) := by omega
    have em : ((m + 1 : Nat) : Int) - 1 = (m : Int) := by omega
    obtain ⟨w', a1, a2, a3, a4⟩ := q_search_115 hO (x1 := x1) (x2 := x2) (x3 := x3) (x4 := x4) (x5 := x5) (x6 := x6) (x7 := x7) k m n (left / (nQ S + 1)) (wset w 35 m (decQ (nQ S) (left % (nQ S + 1)))) (by omega) (by omega) (by omega) (by rw [wset_far 26 (by decide)]; exact h26)
    refine ⟨w', ?_, fun c hc => by rw [a2 c hc, wset_far c hc], fun j hj => ?_, fun j hj => by rw [a4 j (by omega), wset_at, if_neg (by omega)]⟩
    · rw [m_search_115, em, h26, eB, brem_n h2 (by omega) (by omega), wr_id (x := (m : Int)) (by omega) (by omega), if_neg (by omega), wr_id (x := ((nQ S + 1 : Nat) : Int)) (by omega) (by omega), if_neg (by omega), wr_id (x := ((left % (nQ S + 1) : Nat) : Int)) (by omega) (by omega), wr_id (x := S 16 0) (by omega) (by omega)]
      have f1 : 0 ≤ (m : Int) ∧ (m : Int) < 7 := by omega
      simp only [f1, and_self, if_true, Int.toNat_natCast]
      have fin : ∀ z : Int, z = decQ (nQ S) (left % (nQ S + 1)) → (if wr (wset w 35 m z 26 6 + 1) = 0 then none else m_search_115 x1 x2 x3 x4 x5 x6 x7 k n (bdiv (left : Int) (wset w 35 m z 26 6 + 1)) ((m : Int) + -1) (wset w 35 m z)) = k w' := by
        rintro _ rfl
        rw [wset_far 26 (by decide), h26, eB, wr_id (by omega) (by omega), if_neg (by omega), bdiv_n h2 (by omega) (by omega), show (m : Int) + -1 = (m : Int) - 1 by omega, a1]
      by_cases c : left % (nQ S + 1) = nQ S
      · rw [if_pos (by omega)]
        exact fin (-1) (by unfold decQ; rw [if_pos c])
      · rw [if_neg (by omega)]
        exact fin _ (by unfold decQ; rw [if_neg c])
    · by_cases e : j = m
      · subst e
        rw [a4 j (by omega), wset_at, if_pos rfl, show j + 1 - 1 - j = 0 by omega, Nat.pow_zero, Nat.div_one]
      · rw [a3 j (by omega), Nat.div_div_eq_div_mul, show (nQ S + 1) * (nQ S + 1) ^ (m - 1 - j) = (nQ S + 1) ^ (m + 1 - 1 - j) by rw [Nat.mul_comm, ← Nat.pow_succ]; congr 1; omega]
theorem q_search_292 {S : Wd} (hO : OK S) {x1 x2 x3 x4 x5 x6 x7 : Int} (k : Wd → Option (Int × Wd)) : ∀ (m n : Nat) (s : Int) (w : Wd), 0 ≤ s → s + m = S 5 0 → m < n → w 26 4 = S 5 0 → ∃ w', m_search_292 x1 x2 x3 x4 x5 x6 x7 k n s w = k w' ∧ (∀ c, c ≠ 36 → w' c = w c) ∧ (∀ t : Int, s ≤ t → t < S 5 0 → w' 36 t.toNat = w 35 t.toNat) ∧ (∀ j : Nat, (j : Int) < s → w' 36 j = w 36 j)
  | 0, n, s, w, h0, h1, h2, h26 => by
    obtain ⟨n, rfl⟩ : ∃ n', n = n' + 1 := ⟨n - 1, by omega⟩
    have hN := hO.1
    refine ⟨w, ?_, fun c _ => rfl, fun t a b => by omega, fun j _ => rfl⟩
    rw [m_search_292, h26, wr_id (by omega) (by omega), wr_id (by omega) (by omega), if_pos (by omega)]
  | m + 1, n, s, w, h0, h1, h2, h26 => by
    obtain ⟨n, rfl⟩ : ∃ n', n = n' + 1 := ⟨n - 1, by omega⟩
    have hN := hO.1
    obtain ⟨w', a1, a2, a3, a4⟩ := q_search_292 hO (x1 := x1) (x2 := x2) (x3 := x3) (x4 := x4) (x5 := x5) (x6 := x6) (x7 := x7) k m n (s + 1) (wset w 36 s.toNat (w 35 s.toNat)) (by omega) (by omega) (by omega) (by rw [wset_far 26 (by decide)]; exact h26)
    refine ⟨w', ?_, fun c hc => by rw [a2 c hc, wset_far c hc], fun t a b => ?_, fun j hj => by rw [a4 j (by omega), wset_at, if_neg (by omega)]⟩
    · rw [m_search_292, h26, wr_id (by omega) (by omega), wr_id (by omega) (by omega), if_neg (by omega), if_pos (by omega), if_pos (by omega), a1]
    · by_cases e : t = s
      · subst e; rw [a4 _ (by omega), wset_at, if_pos rfl]
      · rw [a3 t (by omega) b, wset_far 35 (by decide)]
/-! the order among rows -/
def kN (S : Wd) (r : Int → Int) : Int := cnt (bthR r) (nS S)
def kM (S : Wd) (near : Bool) (r : Int → Int) : Int := if near then movedN S r else 0
def Kle (S : Wd) (near : Bool) (j i : Nat) : Prop := kN S (rk S i) < kN S (rk S j) ∨ (kN S (rk S i) = kN S (rk S j) ∧ (kM S near (rk S j) < kM S near (rk S i) ∨ (kM S near (rk S j) = kM S near (rk S i) ∧ (showAll S (rk S i) < showAll S (rk S j) ∨ (showAll S (rk S i) = showAll S (rk S j) ∧ j ≤ i)))))
def SInv (S : Wd) (near : Bool) (k : Nat) (any most few shows : Int) (w : Wd) : Prop := (any = 0 ∧ ∀ i, i < k → ¬ goodR S (rk S i)) ∨ (any = 1 ∧ ∃ j, j < k ∧ goodR S (rk S j) ∧ (∀ s : Int, 0 ≤ s → s < S 5 0 → w 36 s.toNat = rk S j s) ∧ most = kN S (rk S j) ∧ few = kM S near (rk S j) ∧ shows = showAll S (rk S j) ∧ ∀ i, i < k → goodR S (rk S i) → Kle S near j i)
theorem kN_bd {S : Wd} (hO : OK S) (r : Int → Int) : 0 ≤ kN S r ∧ kN S r ≤ 7 := by
  have := cnt_bd (bthR r) (nS S)
  have := nS_le hO
  unfold kN
  omega
theorem kM_bd {S : Wd} (hO : OK S) (near : Bool) (r : Int → Int) : 0 ≤ kM S near r ∧ kM S near r ≤ 7 := by
  have := cnt_bd (fun t => decide (r t ≠ S 14 t.toNat)) (nS S)
  have := nS_le hO
  unfold kM movedN
  split <;> omega
theorem show_bd {S : Wd} (hO : OK S) {r : Int → Int} (hr : inR S r) : 0 ≤ showAll S r ∧ showAll S r ≤ 7000 := by
  have hn := nS_i hO
  have hn7 := nS_le hO
  have hQ := hO.2.1
  have := sumI_bd (f := fun k => show1 S k (r k)) (lo := 0) (hi := 1000) (nS S) 0 (fun k a b => by
    have h1 := hr k a (by omega)
    exact show1_bd hO a (by omega) h1.1 (by omega))
  unfold showAll
  omega
theorem q_search_97 {S : Wd} (hO : OK S) {near : Bool} {all : Nat} (hall : all ≤ 100000) (hex : ∃ i, i < all ∧ goodR S (rk S i)) : ∀ (m n k : Nat) (any most few shows : Int) (w : Wd), k + m = all → m < n → RM S w → lieIn S w → SInv S near k any most few shows w → ∃ w' j, m_search_97 (bz near) (all : Int) n any most few shows (k : Int) w = some (0, w') ∧ (∀ c, c ≠ 35 → c ≠ 36 → w' c = w c) ∧ j < all ∧ goodR S (rk S j) ∧ (∀ s : Int, 0 ≤ s → s < S 5 0 → w' 36 s.toNat = rk S j s) ∧ ∀ i, i < all → goodR S (rk S i) → Kle S near j i
  | 0, n, k, any, most, few, shows, w, h1, h2, hM, hl, hI => by
    obtain ⟨n, rfl⟩ : ∃ n', n = n' + 1 := ⟨n - 1, by omega⟩
    obtain ⟨i, hi, hg⟩ := hex
    rcases hI with ⟨a, b⟩ | ⟨a, j, b1, b2, b3, b4, b5, b6, b7⟩
    · exact absurd hg (b i (by omega))
    · refine ⟨w, j, ?_, fun c _ _ => rfl, by omega, b2, b3, fun i hi => b7 i (by omega)⟩
      rw [m_search_97, wr_id (by omega) (by omega), wr_id (by omega) (by omega), if_pos (by omega)]
  | m + 1, n, k, any, most, few, shows, w, h1, h2, hM, hl, hI => by
    obtain ⟨n, rfl⟩ : ∃ n', n = n' + 1 := ⟨n - 1, by omega⟩
    have hN := hO.1
    have hQ := hO.2.1
    have hn := nS_i hO
    have hn7 := nS_le hO
    have ih := q_search_97 hO (near := near) hall hex m n (k + 1)
    have hrk := rk_in S hO k
    have bN := kN_bd hO (rk S k)
    have bM := kM_bd hO near (rk S k)
    have bS := show_bd hO hrk
    have ek : ((k : Int) + 1) = ((k + 1 : Nat) : Int) := by omega
    -- the decoded row
    obtain ⟨w1, a1, a2, a3, a4⟩ := q_search_115 hO (x1 := bz near) (x2 := (all : Int)) (x3 := any) (x4 := most) (x5 := few) (x6 := shows) (x7 := (k : Int)) (fun (w170 : Wd) =>
        ((m_berthed 35 w170).bind fun q175 =>
        (let j191 := fun (_ : Unit) => 
            ((m_isGood q175.2).bind fun q192 =>
            (if wr q192.1 = 0 then
              (m_search_97 (bz near) (all : Int) n any most few shows ((k : Int) + 1) q192.2)
            else
              (let j217 := fun (z217_0 : Int) (w217 : Wd) => 
                  ((m_show 35 (w217 26 4) w217).bind fun q235 =>
                  (let j275 := fun (_ : Unit) => 
                      (m_search_292 (bz near) (all : Int) 1 q175.1 z217_0 q235.1 (k : Int) (fun (w321 : Wd) =>
                        (m_search_97 (bz near) (all : Int) n 1 q175.1 z217_0 q235.1 ((k : Int) + 1) w321)) FU 0 q235.2)
                  (if wr any = 0 then
                    (j275 ())
                  else
                    (if wr q175.1 = wr most then
                      (if wr few < wr z217_0 then
                        (m_search_97 (bz near) (all : Int) n any most few shows ((k : Int) + 1) q235.2)
                      else
                        (if wr z217_0 = wr few then
                          (if wr shows < wr q235.1 then
                            (j275 ())
                          else
                            (m_search_97 (bz near) (all : Int) n any most few shows ((k : Int) + 1) q235.2))
                        else
                          (j275 ())))
                    else
                      (j275 ())))))
              (if wr (bz near) = 0 then
                (j217 0 q192.2)
              else
                ((m_moved 35 q192.2).bind fun q210 =>
                (j217 q210.1 q210.2))))))
        (if wr any = 0 then
          (j191 ())
        else
          (if wr q175.1 < wr most then
            (m_search_97 (bz near) (all : Int) n any most few shows ((k : Int) + 1) q175.2)
          else
            (j191 ())))))) (nS S) FU k w hn7 (by have := FU_big; omega) (by omega) hM.2.1
    have hM1 : RM S w1 := RM_w hM ⟨by rw [a2 26 (by decide)], by rw [a2 26 (by decide)]⟩ (fun c _ _ => a2 c (by omega))
    have hl1 : lieIn S w1 := fun s q s0 s1 q0 q1 => by rw [a2 37 (by decide)]; exact hl s q s0 s1 q0 q1
    have hr1 : rowIn S w1 35 (rk S k) := fun s s0 s1 => by
      have hb := hrk s s0 s1
      refine ⟨?_, hb.1, hb.2⟩
      rw [a3 s.toNat (by omega)]
      rfl
    have e36 : w1 36 = w 36 := a2 36 (by decide)
    -- going on with the same best
    have cont : SInv S near (k + 1) any most few shows w1 → ∃ w' j, m_search_97 (bz near) (all : Int) n any most few shows ((k : Int) + 1) w1 = some (0, w') ∧ (∀ c, c ≠ 35 → c ≠ 36 → w' c = w c) ∧ j < all ∧ goodR S (rk S j) ∧ (∀ s : Int, 0 ≤ s → s < S 5 0 → w' 36 s.toNat = rk S j s) ∧ ∀ i, i < all → goodR S (rk S i) → Kle S near j i := by
      intro hI2
      obtain ⟨w', j, b1, b2, b3⟩ := ih any most few shows w1 (by omega) (by omega) hM1 hl1 hI2
      rw [ek]
      exact ⟨w', j, b1, fun c c1 c2 => by rw [b2 c c1 c2, a2 c c1], b3⟩
    -- taking this one
    have take : goodR S (rk S k) → (∀ i, i < k → goodR S (rk S i) → Kle S near k i) → ∃ w' j, m_search_292 (bz near) (all : Int) 1 (kN S (rk S k)) (kM S near (rk S k)) (showAll S (rk S k)) (k : Int) (fun (w321 : Wd) => (m_search_97 (bz near) (all : Int) n 1 (kN S (rk S k)) (kM S near (rk S k)) (showAll S (rk S k)) ((k : Int) + 1) w321)) FU 0 w1 = some (0, w') ∧ (∀ c, c ≠ 35 → c ≠ 36 → w' c = w c) ∧ j < all ∧ goodR S (rk S j) ∧ (∀ s : Int, 0 ≤ s → s < S 5 0 → w' 36 s.toNat = rk S j s) ∧ ∀ i, i < all → goodR S (rk S i) → Kle S near j i := by
      intro hg hk
      obtain ⟨w2, c1, c2, c3, c4⟩ := q_search_292 hO (x1 := bz near) (x2 := (all : Int)) (x3 := 1) (x4 := kN S (rk S k)) (x5 := kM S near (rk S k)) (x6 := showAll S (rk S k)) (x7 := (k : Int)) (fun (w321 : Wd) => (m_search_97 (bz near) (all : Int) n 1 (kN S (rk S k)) (kM S near (rk S k)) (showAll S (rk S k)) ((k : Int) + 1) w321)) (nS S) FU 0 w1 (by omega) (by omega) (by have := FU_big; omega) hM1.1
      obtain ⟨w', j, b1, b2, b3⟩ := ih 1 (kN S (rk S k)) (kM S near (rk S k)) (showAll S (rk S k)) w2 (by omega) (by omega) (RM_w hM1 ⟨by rw [c2 26 (by decide)], by rw [c2 26 (by decide)]⟩ (fun c _ _ => c2 c (by omega))) (fun s q s0 s1 q0 q1 => by rw [c2 37 (by decide)]; exact hl1 s q s0 s1 q0 q1) (Or.inr ⟨rfl, k, by omega, hg, fun s s0 s1 => by rw [c3 s s0 s1]; exact (hr1 s s0 s1).1, rfl, rfl, rfl, fun i hi hgi => by
        by_cases e : i = k
        · subst e
          unfold Kle
          omega
        · exact hk i (by omega) hgi⟩)
      rw [c1, ek]
      exact ⟨w', j, b1, fun c d1 d2 => by rw [b2 c d1 d2, c2 c d2, a2 c d1], b3⟩
    have eM : ∀ K : Int → Wd → Option (Int × Wd), (if wr (bz near) = 0 then K 0 w1 else (m_moved 35 w1).bind fun q210 => K q210.1 q210.2) = K (kM S near (rk S k)) w1 := by
      intro K
      rw [wr_bz, q_moved hO hM1 hr1]
      cases near
      · rw [if_pos (show bz false = 0 from rfl)]; rfl
      · rw [if_neg (by decide)]; rfl
    rw [m_search_97, wr_id (x := (all : Int)) (by omega) (by omega), wr_id (x := (k : Int)) (by omega) (by omega), if_neg (by omega), hM.1, show S 5 0 - 1 = ((nS S : Nat) : Int) - 1 by omega, a1]
    rw [q_berthed hO hM1 hr1]
    simp only [Option.bind_some]
    rw [q_isGood hO hM1 hr1 hl1]
    simp only [Option.bind_some, wr_bz, bz_eq0]
    rw [show cnt (bthR (rk S k)) (nS S) = kN S (rk S k) from rfl]
    have eS : m_show 35 (w1 26 4) w1 = some (showAll S (rk S k), w1) := by rw [hM1.1]; exact q_show hO hM1 hr1
    have eM2 := eM (fun (z217_0 : Int) (w217 : Wd) => ((m_show 35 (w217 26 4) w217).bind fun q235 =>
                  (if wr any = 0 then
                    (m_search_292 (bz near) (all : Int) 1 (kN S (rk S k)) z217_0 q235.1 (k : Int) (fun (w321 : Wd) => (m_search_97 (bz near) (all : Int) n 1 (kN S (rk S k)) z217_0 q235.1 ((k : Int) + 1) w321)) FU 0 q235.2)
                  else
                    (if wr (kN S (rk S k)) = wr most then
                      (if wr few < wr z217_0 then
                        (m_search_97 (bz near) (all : Int) n any most few shows ((k : Int) + 1) q235.2)
                      else
                        (if wr z217_0 = wr few then
                          (if wr shows < wr q235.1 then
                            (m_search_292 (bz near) (all : Int) 1 (kN S (rk S k)) z217_0 q235.1 (k : Int) (fun (w321 : Wd) => (m_search_97 (bz near) (all : Int) n 1 (kN S (rk S k)) z217_0 q235.1 ((k : Int) + 1) w321)) FU 0 q235.2)
                          else
                            (m_search_97 (bz near) (all : Int) n any most few shows ((k : Int) + 1) q235.2))
                        else
                          (m_search_292 (bz near) (all : Int) 1 (kN S (rk S k)) z217_0 q235.1 (k : Int) (fun (w321 : Wd) => (m_search_97 (bz near) (all : Int) n 1 (kN S (rk S k)) z217_0 q235.1 ((k : Int) + 1) w321)) FU 0 q235.2)))
                    else
                      (m_search_292 (bz near) (all : Int) 1 (kN S (rk S k)) z217_0 q235.1 (k : Int) (fun (w321 : Wd) => (m_search_97 (bz near) (all : Int) n 1 (kN S (rk S k)) z217_0 q235.1 ((k : Int) + 1) w321)) FU 0 q235.2)))))
    rw [wr_bz] at eM2
    simp only [bz_eq0] at eM2
    rw [eM2, eS]
    simp only [Option.bind_some]
    have gB := goodB_iff hO (rk S k)
    rcases hI with ⟨ha, hno⟩ | ⟨ha, j, j1, j2, j3, j4, j5, j6, j7⟩
    · subst ha
      rw [if_pos (show wr 0 = 0 from rfl)]
      cases hg : goodB S (rk S k)
      · rw [if_pos rfl]
        have hng : ¬ goodR S (rk S k) := fun h => by rw [gB.mpr h] at hg; cases hg
        exact cont (Or.inl ⟨rfl, fun i hi => by
          by_cases e : i = k
          · subst e; exact hng
          · exact hno i (by omega)⟩)
      · rw [if_neg (by decide), if_pos (show wr 0 = 0 from rfl)]
        exact take (gB.mp hg) (fun i hi hgi => absurd hgi (hno i hi))
    · subst ha
      have bNj := kN_bd hO (rk S j)
      have bMj := kM_bd hO near (rk S j)
      have bSj := show_bd hO (rk_in S hO j)
      have hcont : (goodR S (rk S k) → Kle S near j k) → SInv S near (k + 1) 1 most few shows w1 := fun hk => Or.inr ⟨rfl, j, by omega, j2, fun s s0 s1 => by rw [e36]; exact j3 s s0 s1, j4, j5, j6, fun i hi hgi => by
        by_cases e : i = k
        · subst e; exact hk hgi
        · exact j7 i (by omega) hgi⟩
      rw [if_neg (show ¬ wr 1 = 0 by decide)]
      rw [wr_id (x := kN S (rk S k)) (by omega) (by omega), wr_id (x := most) (by omega) (by omega), wr_id (x := few) (by omega) (by omega), wr_id (x := kM S near (rk S k)) (by omega) (by omega), wr_id (x := shows) (by omega) (by omega), wr_id (x := showAll S (rk S k)) (by omega) (by omega)]
      by_cases d1 : kN S (rk S k) < most
      · rw [if_pos d1]
        exact cont (hcont (fun _ => by unfold Kle; omega))
      · rw [if_neg d1]
        cases hg : goodB S (rk S k)
        · rw [if_pos rfl]
          have hng : ¬ goodR S (rk S k) := fun h => by rw [gB.mpr h] at hg; cases hg
          exact cont (hcont (fun h => absurd h hng))
        · rw [if_neg (show ¬ true = false by decide), if_neg (show ¬ wr 1 = 0 by decide)]
          have hgood := gB.mp hg
          by_cases d2 : kN S (rk S k) = most
          · rw [if_pos d2]
            by_cases d3 : few < kM S near (rk S k)
            · rw [if_pos d3]
              exact cont (hcont (fun _ => by unfold Kle; omega))
            · rw [if_neg d3]
              by_cases d4 : kM S near (rk S k) = few
              · rw [if_pos d4]
                by_cases d5 : shows < showAll S (rk S k)
                · rw [if_pos d5]
                  exact take hgood (fun i hi hgi => by have := j7 i hi hgi; unfold Kle at this ⊢; omega)
                · rw [if_neg d5]
                  exact cont (hcont (fun _ => by unfold Kle; omega))
              · rw [if_neg d4]
                exact take hgood (fun i hi hgi => by have := j7 i hi hgi; unfold Kle at this ⊢; omega)
          · rw [if_neg d2]
            exact take hgood (fun i hi hgi => by have := j7 i hi hgi; unfold Kle at this ⊢; omega)
