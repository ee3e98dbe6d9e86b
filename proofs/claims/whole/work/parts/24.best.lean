/-! The class's best and mend. -/
theorem ssum_bd {f : Int → Int} {hi : Int} {n A : Nat} (h0 : 0 ≤ hi) (h : ∀ s : Int, 0 ≤ s → s < n → A.testBit s.toNat = true → 0 ≤ f s ∧ f s ≤ hi) : 0 ≤ ssum f n A ∧ ssum f n A ≤ hi * n := by
  have := sumI_bd (f := fun s => if A.testBit s.toNat then f s else 0) (lo := 0) (hi := hi) n 0 (fun k a b => by
    cases hA : A.testBit k.toNat
    · simp; exact h0
    · simp only [if_true]; exact h k a (by omega) hA)
  unfold ssum
  omega
theorem scost_bd {S : Wd} (hO : OK S) {near : Bool} {A : Nat} {r : Int → Int} {j : Int} (hj : j ≤ 4) (hr : inA A (nS S) j r) : 0 ≤ scost S near A r ∧ scost S near A r ≤ 1200000000000 := by
  have hn := nS_le hO
  have := ssum_bd (f := fun s => bcost S near s (r s)) (hi := 157000000000) (n := nS S) (A := A) (by decide) (fun s a b c => by
    have := hr s a b c
    exact bcost_bd hO a (by omega) this.1 (by omega))
  unfold scost
  omega
theorem DP_bd {S : Wd} (hO : OK S) {near : Bool} {j : Int} (hj : j ≤ 4) {D : Nat → Int} (h : DPok S near j D) (A : Nat) (hA : A < 2 ^ nS S) : 0 ≤ D A ∧ D A ≤ 1200000000000 := by
  obtain ⟨r, a, b, c⟩ := (h A hA).2
  rw [c]
  exact scost_bd hO hj a
theorem tog_bd {S : Wd} (hO : OK S) {near : Bool} {q : Int} (q0 : 0 ≤ q) (q1 : q < 4) (P : Nat) : -1 ≤ tog S near q P ∧ tog S near q P ≤ 1200000000000 := by
  have hn := nS_le hO
  have := gW_bd (al := alw S q) (fo := fol S) (sp := spn S) (lg := S 17 q.toNat + S 4 3) (co := fun s => bcost S near s q) (fun t ht => bcost_bd hO (by omega) (by omega) (by omega) q1) (nS S) P hn
  unfold tog
  omega
theorem DP_congr {S : Wd} {near : Bool} {j : Int} {D D' : Nat → Int} (h : DPok S near j D) (e : ∀ A, A < 2 ^ nS S → D' A = D A) : DPok S near j D' := by
  intro A hA
  rw [e A hA]
  exact h A hA
theorem p_least_11 {S : Wd} (hO : OK S) {near : Bool} (k : Wd → Option (Int × Wd)) : ∀ (m n : Nat) (q : Int) (w : Wd), 0 ≤ q → q + m = S 16 0 → m < n → (∀ c, 2 ≤ c → c ≤ 21 → w c = S c) → (∀ A, A < 2 ^ nS S → w 24 A = spn S A) → DPok S near q (w 22) → ∃ w', x_leastBerths_11 (bz near) k n q w = k w' ∧ (∀ c, c ≠ 22 → c ≠ 23 → w' c = w c) ∧ DPok S near (S 16 0) (w' 22)
  | 0, n, q, w, h0, h1, h2, h3, h4, h5 => by
    obtain ⟨n, rfl⟩ : ∃ n', n = n' + 1 := ⟨n - 1, by omega⟩
    have hQ := hO.2.1
    refine ⟨w, ?_, fun c _ _ => rfl, by rw [show S 16 0 = q by omega]; exact h5⟩
    rw [x_leastBerths_11, h3 16 (by omega) (by omega), wr_id (by omega) (by omega), wr_id (by omega) (by omega), if_pos (by omega)]
  | m + 1, n, q, w, h0, h1, h2, h3, h4, h5 => by
    obtain ⟨n, rfl⟩ : ∃ n', n = n' + 1 := ⟨n - 1, by omega⟩
    have hN := hO.1
    have hQ := hO.2.1
    have hn := nS_i hO
    have hn7 := nS_le hO
    have h27 : 2 ^ nS S ≤ 2 ^ 7 := Nat.pow_le_pow_right (by omega) hn7
    have hpos := Nat.two_pow_pos (nS S)
    obtain ⟨w1, a1, a2, a3⟩ := p_weigh hO (near := near) h0 (by omega) h3 h4
    obtain ⟨w2, b1, b2, b3, b4, b5⟩ := p_offer_8 (M := 2 ^ nS S) (by omega) (T := tog S near q) (O := w 22) (fun P _ => tog_bd hO h0 (by omega) P) (fun P hP => DP_bd hO (by omega) h5 P hP) (2 ^ nS S - 1) FU w1 (by omega) (by have := FU_big; omega) a3 (fun P _ => by rw [a2 22 (by omega)])
    have hD : DPok S near (q + 1) (w2 22) := DP_step hO h0 h5 (by rw [b3, a2 22 (by omega)]) (fun A a b => (b4 A a (by omega)).2)
    obtain ⟨w', c1, c2, c3⟩ := p_least_11 hO (near := near) k m n (q + 1) w2 (by omega) (by omega) (by omega) (fun c a b => by rw [b2 c (by omega), a2 c (by omega)]; exact h3 c a b) (fun A hA => by rw [b2 24 (by omega), a2 24 (by omega)]; exact h4 A hA) hD
    refine ⟨w', ?_, fun c e1 e2 => by rw [c2 c e1 e2, b2 c e1, a2 c e2], c3⟩
    rw [x_leastBerths_11, h3 16 (by omega) (by omega), wr_id (by omega) (by omega), wr_id (by omega) (by omega), if_neg (by omega), a1]
    simp only [Option.bind_some]
    unfold x_offerQuay
    rw [p_all (N := nS S) (by rw [a2 5 (by omega), h3 5 (by omega) (by omega)]; omega) hn7]
    simp only [Option.bind_some]
    rw [b1]
    simp only [Option.bind_some]
    exact c1
/-- all berths: each ship's row within its bounds -/
def inR (S : Wd) (r : Int → Int) : Prop := ∀ s : Int, 0 ≤ s → s < S 5 0 → -1 ≤ r s ∧ r s < S 16 0
def fitAll (S : Wd) (near : Bool) (r : Int → Int) : Prop := ∀ q : Int, 0 ≤ q → q < S 16 0 → tog S near q (maskI (fun s => decide (r s = q)) (nS S) 0) ≠ -1
def costR (S : Wd) (near : Bool) (r : Int → Int) : Int := sumI (fun s => bcost S near s (r s)) (nS S) 0
theorem full_bit {n t : Nat} (h : t < n) : (2 ^ n - 1).testBit t = true := by rw [Nat.testBit_two_pow_sub_one]; exact decide_eq_true h
theorem scost_full (S : Wd) (near : Bool) (r : Int → Int) : scost S near (2 ^ nS S - 1) r = costR S near r := by
  unfold scost costR ssum
  refine sumI_congr (nS S) 0 (fun k a b => ?_)
  rw [full_bit (by omega)]
  rfl
theorem atQ_full (S : Wd) (r : Int → Int) (q : Int) : atQ (nS S) (2 ^ nS S - 1) r q = maskI (fun s => decide (r s = q)) (nS S) 0 := by
  have h2 := (maskI_lt (fun s => decide (r s = q)) (nS S) 0).1
  rw [Nat.zero_add] at h2
  refine mask_eq (atQ_lt _ _ _ _) h2 (fun t ht => ?_)
  rw [atQ_bit, full_bit ht]
  show _ = (maskI _ (nS S) ((0 : Nat) : Int)).testBit t
  rw [maskI_bit, decide_eq_true ht, decide_eq_true (show 0 ≤ t ∧ t < 0 + nS S by omega)]
  rfl
theorem p_leastBerths {S : Wd} (hO : OK S) {near : Bool} : ∃ w' v r, x_leastBerths (bz near) S = some (v, w') ∧ (∀ c, c ≠ 22 → c ≠ 23 → c ≠ 24 → w' c = S c) ∧ inR S r ∧ fitAll S near r ∧ v = costR S near r ∧ ∀ r', inR S r' → fitAll S near r' → v ≤ costR S near r' := by
  have hN := hO.1
  have hQ := hO.2.1
  have hn := nS_i hO
  have hn7 := nS_le hO
  have h27 : 2 ^ nS S ≤ 2 ^ 7 := Nat.pow_le_pow_right (by omega) hn7
  have hpos := Nat.two_pow_pos (nS S)
  obtain ⟨w1, a1, a2, a3⟩ := p_idle_9 hO (near := near) (nS S) FU 0 (wset S 22 0 0) (by omega) (by have := FU_big; omega) (fun c a b => wset_far c (by omega)) (fun A hA => by
    have : A = 0 := by omega
    subst this
    rw [wset_at, if_pos rfl]; rfl)
  obtain ⟨w2, b1, b2, b3⟩ := p_span_9 hO (nS S) FU 0 (wset w1 24 0 0) (by omega) (by have := FU_big; omega) (fun c a b => by rw [wset_far c (by omega), a2 c (by omega), wset_far c (by omega)]) (fun A hA => by
    have : A = 0 := by omega
    subst this
    rw [wset_at, if_pos rfl]; rfl)
  have e22 : w2 22 = w1 22 := by rw [b2 22 (by omega), wset_far 22 (by omega)]
  obtain ⟨w', c1, c2, c3⟩ := p_least_11 hO (near := near) (fun (w38 : Wd) => ((fl_all w38).bind fun q46 => (if 0 ≤ q46.1 ∧ q46.1 < 128 then some ((q46.2 22 q46.1.toNat), q46.2) else none))) (nQ S) FU 0 w2 (by omega) (by have := nQ_i hO; omega) (by have := FU_big; unfold nQ; omega) (fun c a b => by rw [b2 c (by omega), wset_far c (by omega), a2 c (by omega), wset_far c (by omega)]) b3 (DP_base (fun A hA => by rw [e22]; exact a3 A hA))
  have ho : ∀ c, c ≠ 22 → c ≠ 23 → c ≠ 24 → w' c = S c := fun c e1 e2 e3 => by rw [c2 c e1 e2, b2 c e3, wset_far c e3, a2 c e1, wset_far c e1]
  obtain ⟨d1, r, d2, d3, d4⟩ := c3 (2 ^ nS S - 1) (by omega)
  refine ⟨w', w' 22 (2 ^ nS S - 1), r, ?_, ho, fun s a b => d2 s a (by omega) (full_bit (by omega)), fun q a b => by rw [← atQ_full]; exact d3 q a b, by rw [d4, scost_full], fun r' h1 h2 => ?_⟩
  · unfold x_leastBerths x_startIdle x_measureSpans
    rw [show ((0 : Nat) : Int) = 0 from rfl] at a1 b1
    rw [a1]
    simp only [Option.bind_some]
    rw [b1]
    simp only [Option.bind_some]
    rw [c1, p_all (N := nS S) (by rw [ho 5 (by omega) (by omega) (by omega)]; omega) hn7]
    simp only [Option.bind_some, Int.toNat_natCast]
    rw [if_pos (by omega)]
  · rw [← scost_full]
    exact d1 r' (fun s a b _ => h1 s a (by omega)) (fun q a b => by rw [atQ_full]; exact h2 q a b)
/-! reading the choice off the sum -/
theorem sumI_7 (f : Int → Int) {N : Nat} (h : N ≤ 7) : sumI f N 0 = sumI (fun s => if s < (N : Int) then f s else 0) 7 0 := by
  have e : 7 = N + (7 - N) := by omega
  rw [e, sumI_split, sumI_zero (7 - N) (0 + (N : Int)) (fun k a b => by rw [if_neg (by omega)]), Int.add_zero]
  exact sumI_congr N 0 (fun k a b => by rw [if_pos (by omega)])
theorem sumI_mul (f : Int → Int) (c : Int) : ∀ (m : Nat) (i : Int), sumI (fun k => f k * c) m i = sumI f m i * c
  | 0, _ => by simp [sumI]
  | m + 1, i => by rw [sumI_s, sumI_s, sumI_mul f c m (i + 1), Int.add_mul]
def chn (r : Int → Int) (N : Nat) : Int := sumI (fun s => chz (r s) * pw s) N 0
def lostS (S : Wd) (r : Int → Int) (N : Nat) : Int := sumI (fun s => 1000 - show1 S s (r s)) N 0
def movN (S : Wd) (near : Bool) (r : Int → Int) (N : Nat) : Int := sumI (fun s => bz (near && decide (r s ≠ S 14 s.toNat))) N 0
def idlN (r : Int → Int) (N : Nat) : Int := sumI (fun s => bz (decide (r s = -1))) N 0
theorem costR_eq (S : Wd) (near : Bool) (r : Int → Int) : costR S near r = chn r (nS S) + lostS S r (nS S) * 2097152 + movN S near r (nS S) * 17179869184 + idlN r (nS S) * 137438953472 := by
  unfold costR chn lostS movN idlN
  rw [← sumI_mul, ← sumI_mul, ← sumI_mul, ← sumI_add, ← sumI_add, ← sumI_add]
  rfl
theorem chn_7 (r : Int → Int) {N : Nat} (h : N ≤ 7) : ∃ c : Int → Int, (∀ s : Int, 0 ≤ s → s < N → c s = chz (r s)) ∧ (∀ s : Int, (N : Int) ≤ s → c s = 0) ∧ chn r N = c 0 * 262144 + c 1 * 32768 + c 2 * 4096 + c 3 * 512 + c 4 * 64 + c 5 * 8 + c 6 := by
  refine ⟨fun s => if s < (N : Int) then chz (r s) else 0, fun s a b => if_pos b, fun s a => if_neg (by omega), ?_⟩
  unfold chn
  rw [sumI_7 _ h]
  have e : ∀ s : Int, (if s < (N : Int) then chz (r s) * pw s else 0) = (if s < (N : Int) then chz (r s) else 0) * pw s := fun s => by split <;> simp
  simp only [e]
  rw [sumI_s, sumI_s, sumI_s, sumI_s, sumI_s, sumI_s, sumI_s]
  rw [show pw 0 = 262144 from by decide, show pw (0 + 1) = 32768 from by decide, show pw (0 + 1 + 1) = 4096 from by decide, show pw (0 + 1 + 1 + 1) = 512 from by decide, show pw (0 + 1 + 1 + 1 + 1) = 64 from by decide, show pw (0 + 1 + 1 + 1 + 1 + 1) = 8 from by decide, show pw (0 + 1 + 1 + 1 + 1 + 1 + 1) = 1 from by decide]
  show _ + (_ + (_ + (_ + (_ + (_ + (_ + (0 : Int))))))) = _
  rw [show ((0 : Int) + 1) = 1 from rfl, show ((1 : Int) + 1) = 2 from rfl, show ((2 : Int) + 1) = 3 from rfl, show ((3 : Int) + 1) = 4 from rfl, show ((4 : Int) + 1) = 5 from rfl, show ((5 : Int) + 1) = 6 from rfl]
  omega
theorem chn_bd {S : Wd} (hO : OK S) {r : Int → Int} (hr : inR S r) : 0 ≤ chn r (nS S) ∧ chn r (nS S) < 2097152 := by
  have hn7 := nS_le hO
  have hn := nS_i hO
  have hQ := hO.2.1
  obtain ⟨c, h1, h2, h3⟩ := chn_7 r hn7
  have hc : ∀ s : Int, 0 ≤ s → 0 ≤ c s ∧ c s ≤ 4 := fun s a => by
    by_cases e : s < nS S
    · rw [h1 s a e]
      have := hr s a (by omega)
      exact chz_bd this.1 (by omega)
    · rw [h2 s (by omega)]; omega
  have := hc 0 (by omega)
  have := hc 1 (by omega)
  have := hc 2 (by omega)
  have := hc 3 (by omega)
  have := hc 4 (by omega)
  have := hc 5 (by omega)
  have := hc 6 (by omega)
  omega
theorem lost_bd {S : Wd} (hO : OK S) {r : Int → Int} (hr : inR S r) : 0 ≤ lostS S r (nS S) ∧ lostS S r (nS S) ≤ 7000 := by
  have hn7 := nS_le hO
  have hn := nS_i hO
  have hQ := hO.2.1
  have := sumI_bd (f := fun s => 1000 - show1 S s (r s)) (lo := 0) (hi := 1000) (nS S) 0 (fun k a b => by
    have h1 := hr k a (by omega)
    have := show1_bd hO a (show k < 7 by omega) h1.1 (by omega)
    omega)
  unfold lostS
  omega
theorem sbz_bd (p : Int → Bool) (N : Nat) (h : N ≤ 7) : 0 ≤ sumI (fun s => bz (p s)) N 0 ∧ sumI (fun s => bz (p s)) N 0 ≤ 7 := by
  have := cnt_bd p N
  unfold cnt at this
  omega
theorem land7 {x : Int} (h0 : 0 ≤ x) (h1 : x < 9223372036854775808) {k : Nat} (hk : k < 40) : land x ((2 : Int) ^ k - 1) = x % 2 ^ k := by
  obtain ⟨y, rfl⟩ := Int.eq_ofNat_of_zero_le h0
  have h2 : 2 ^ k < 2 ^ 40 := Nat.pow_lt_pow_right (by omega) hk
  have h3 := Nat.two_pow_pos k
  have e : (2 : Int) ^ k = ((2 ^ k : Nat) : Int) := by rw [Int.natCast_pow]; rfl
  rw [e, show (((2 ^ k : Nat) : Int) - 1) = ((2 ^ k - 1 : Nat) : Int) by omega, land_n (by omega) (by omega), Nat.and_two_pow_sub_one_eq_mod]
  rfl
theorem p_lowChoice {x s : Int} {b : Nat} (x0 : 0 ≤ x) (x1 : x < 9223372036854775808) (s0 : 0 ≤ s) (s1 : s < 7) (b1 : b ≤ 8) (w : Wd) : x_lowChoice x s (b : Int) w = some (x / 2 ^ ((b : Int) * (6 - s)).toNat % 2 ^ b, w) := by
  have hb : 0 ≤ (b : Int) * (6 - s) ∧ (b : Int) * (6 - s) ≤ 8 * 6 := mul_bd (by omega) (by omega) (by omega) (by omega)
  have hp : 2 ^ b ≤ 2 ^ 8 := Nat.pow_le_pow_right (by omega) b1
  have ep : (2 : Int) ^ b = ((2 ^ b : Nat) : Int) := by rw [Int.natCast_pow]; rfl
  unfold x_lowChoice x_lowShift
  simp only [Option.bind_some]
  rw [lshr_i x0 hb.1 (by omega) x1, lshl_i (by omega) (by omega) (by omega) (by rw [Int.toNat_natCast, Int.one_mul, ep]; omega), Int.toNat_natCast, Int.one_mul]
  have h2 : (0 : Int) < 2 ^ ((b : Int) * (6 - s)).toNat := Int.pow_pos (by decide)
  have h3 : 0 ≤ x / 2 ^ ((b : Int) * (6 - s)).toNat := Int.ediv_nonneg x0 (Int.le_of_lt h2)
  have h4 : x / 2 ^ ((b : Int) * (6 - s)).toNat ≤ x := Int.ediv_le_self _ x0
  rw [land7 h3 (by omega) (by omega)]
theorem cost_digit {S : Wd} (hO : OK S) {near : Bool} {r : Int → Int} (hr : inR S r) {s : Int} (s0 : 0 ≤ s) (s1 : s < S 5 0) : costR S near r / 2 ^ (3 * (6 - s)).toNat % 8 = chz (r s) := by
  have hn7 := nS_le hO
  have hn := nS_i hO
  have hQ := hO.2.1
  obtain ⟨c, h1, h2, h3⟩ := chn_7 r hn7
  have hl := lost_bd hO hr
  have hc : ∀ s : Int, 0 ≤ s → 0 ≤ c s ∧ c s ≤ 4 := fun s a => by
    by_cases e : s < nS S
    · rw [h1 s a e]
      have := hr s a (by omega)
      exact chz_bd this.1 (by omega)
    · rw [h2 s (by omega)]; omega
  have m1 := sbz_bd (fun s => near && decide (r s ≠ S 14 s.toNat)) (nS S) hn7
  have m2 := sbz_bd (fun s => decide (r s = -1)) (nS S) hn7
  have k0 := hc 0 (by omega)
  have k1 := hc 1 (by omega)
  have k2 := hc 2 (by omega)
  have k3 := hc 3 (by omega)
  have k4 := hc 4 (by omega)
  have k5 := hc 5 (by omega)
  have k6 := hc 6 (by omega)
  rw [← h1 s s0 (by omega), costR_eq, h3]
  unfold movN idlN
  generalize lostS S r (nS S) = a at *
  generalize sumI (fun s => bz (near && decide (r s ≠ S 14 s.toNat))) (nS S) 0 = b at *
  generalize sumI (fun s => bz (decide (r s = -1))) (nS S) 0 = d at *
  have hs : s = 0 ∨ s = 1 ∨ s = 2 ∨ s = 3 ∨ s = 4 ∨ s = 5 ∨ s = 6 := by omega
  rcases hs with rfl | rfl | rfl | rfl | rfl | rfl | rfl
  · show _ / 262144 % 8 = c 0; omega
  · show _ / 32768 % 8 = c 1; omega
  · show _ / 4096 % 8 = c 2; omega
  · show _ / 512 % 8 = c 3; omega
  · show _ / 64 % 8 = c 4; omega
  · show _ / 8 % 8 = c 5; omega
  · show _ / 1 % 8 = c 6; omega
