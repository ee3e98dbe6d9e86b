/-! Keeping the plan. -/
def wsum (S : Wd) (p : Int → Int) : Int := sumI (fun s => if bth S s then p s - S 11 s.toNat else 0) (nS S) 0
def hnum (S : Wd) (p : Int → Int) : Int := sumI (fun s => if bth S s then p s * hw s else 0) (nS S) 0
theorem com_bth {S : Wd} {k : Int} (a : 0 ≤ k) (b : k < (nS S : Int)) : (com S).testBit k.toNat = bth S k := by
  rw [com_bit, decide_eq_true (show k.toNat < nS S by omega), Int.toNat_of_nonneg a, Bool.true_and]
theorem pcost_eq (S : Wd) (p : Int → Int) : pcost S (com S) p = wsum S p * 562949953421312 + hnum S p := by
  unfold pcost ssum wsum hnum
  rw [← sumI_mul, ← sumI_add]
  refine sumI_congr (nS S) 0 (fun k a b => ?_)
  rw [com_bth a (by omega)]
  unfold hcost
  cases bth S k
  · simp
  · simp
theorem hnum_7 {S : Wd} (hO : OK S) {p : Int → Int} (hp : fplan S p) : ∃ c : Int → Int, (∀ s : Int, 0 ≤ s → s < S 5 0 → bth S s = true → c s = p s) ∧ (∀ s : Int, 0 ≤ s → 0 ≤ c s ∧ c s ≤ 119) ∧ hnum S p = c 0 * 4398046511104 + c 1 * 34359738368 + c 2 * 268435456 + c 3 * 2097152 + c 4 * 16384 + c 5 * 128 + c 6 := by
  have hn := nS_i hO
  have hn7 := nS_le hO
  refine ⟨fun s => if s < (nS S : Int) then (if bth S s then p s else 0) else 0, fun s s0 s1 sb => by dsimp only; rw [if_pos (by omega), sb]; rfl, fun s s0 => ?_, ?_⟩
  · dsimp only
    by_cases c : s < (nS S : Int)
    · rw [if_pos c]
      cases hb : bth S s
      · simp
      · have := hp.1 s s0 (by omega) hb
        simp
        omega
    · rw [if_neg c]; omega
  · unfold hnum
    rw [sumI_7 _ hn7]
    have e : ∀ s : Int, (if s < (nS S : Int) then (if bth S s then p s * hw s else 0) else 0) = (if s < (nS S : Int) then (if bth S s then p s else 0) else 0) * hw s := fun s => by
      split
      · cases bth S s <;> simp
      · simp
    simp only [e]
    rw [sumI_s, sumI_s, sumI_s, sumI_s, sumI_s, sumI_s, sumI_s]
    rw [show hw 0 = 4398046511104 from by decide, show hw (0 + 1) = 34359738368 from by decide, show hw (0 + 1 + 1) = 268435456 from by decide, show hw (0 + 1 + 1 + 1) = 2097152 from by decide, show hw (0 + 1 + 1 + 1 + 1) = 16384 from by decide, show hw (0 + 1 + 1 + 1 + 1 + 1) = 128 from by decide, show hw (0 + 1 + 1 + 1 + 1 + 1 + 1) = 1 from by decide]
    show _ + (_ + (_ + (_ + (_ + (_ + (_ + (0 : Int))))))) = _
    rw [show ((0 : Int) + 1) = 1 from rfl, show ((1 : Int) + 1) = 2 from rfl, show ((2 : Int) + 1) = 3 from rfl, show ((3 : Int) + 1) = 4 from rfl, show ((4 : Int) + 1) = 5 from rfl, show ((5 : Int) + 1) = 6 from rfl]
    omega
theorem hnum_bd {S : Wd} (hO : OK S) {p : Int → Int} (hp : fplan S p) : 0 ≤ hnum S p ∧ hnum S p < 562949953421312 := by
  obtain ⟨c, _, h2, h3⟩ := hnum_7 hO hp
  have := h2 0 (by omega)
  have := h2 1 (by omega)
  have := h2 2 (by omega)
  have := h2 3 (by omega)
  have := h2 4 (by omega)
  have := h2 5 (by omega)
  have := h2 6 (by omega)
  omega
theorem wsum_bd {S : Wd} (hO : OK S) {p : Int → Int} (hp : fplan S p) : 0 ≤ wsum S p ∧ wsum S p ≤ 840 := by
  have hn := nS_i hO
  have hn7 := nS_le hO
  have := sumI_bd (f := fun s => if bth S s then p s - S 11 s.toNat else 0) (lo := 0) (hi := 120) (nS S) 0 (fun k a b => by
    cases hb : bth S k
    · simp
    · have h1 := hp.1 k a (by omega) hb
      have h2 := (can_arr h1.2.2).2
      have h3 := (hO.2.2.2.2.2.1 k a (by omega)).2.2.2.2.2.1
      simp
      omega)
  unfold wsum
  omega
theorem plan_digit {S : Wd} (hO : OK S) {p : Int → Int} (hp : fplan S p) {s : Int} (s0 : 0 ≤ s) (s1 : s < S 5 0) (sb : bth S s = true) : pcost S (com S) p / 2 ^ (7 * (6 - s)).toNat % 128 = p s := by
  have hN := hO.1
  obtain ⟨c, h1, h2, h3⟩ := hnum_7 hO hp
  have hw := wsum_bd hO hp
  have k0 := h2 0 (by omega)
  have k1 := h2 1 (by omega)
  have k2 := h2 2 (by omega)
  have k3 := h2 3 (by omega)
  have k4 := h2 4 (by omega)
  have k5 := h2 5 (by omega)
  have k6 := h2 6 (by omega)
  rw [← h1 s s0 s1 sb, pcost_eq, h3]
  generalize wsum S p = a at *
  have hs : s = 0 ∨ s = 1 ∨ s = 2 ∨ s = 3 ∨ s = 4 ∨ s = 5 ∨ s = 6 := by omega
  rcases hs with rfl | rfl | rfl | rfl | rfl | rfl | rfl
  · show _ / 4398046511104 % 128 = c 0; omega
  · show _ / 34359738368 % 128 = c 1; omega
  · show _ / 268435456 % 128 = c 2; omega
  · show _ / 2097152 % 128 = c 3; omega
  · show _ / 16384 % 128 = c 4; omega
  · show _ / 128 % 128 = c 5; omega
  · show _ / 1 % 128 = c 6; omega
def keepV (S : Wd) (p : Int → Int) (s : Int) : Int := if bth S s then p s else -1
theorem p_keep_3 {S : Wd} (hO : OK S) {p : Int → Int} (hp : fplan S p) : ∀ (m n : Nat) (s : Int) (w : Wd), 0 ≤ s → s + m = S 5 0 → m < n → w 5 = S 5 → ∃ w', x_keepPlan_3 ((com S : Nat) : Int) (pcost S (com S) p) n s w = some (0, w') ∧ (∀ c, c ≠ 15 → w' c = w c) ∧ (∀ k : Nat, w' 15 k = if s ≤ (k : Int) ∧ (k : Int) < S 5 0 then keepV S p k else w 15 k)
  | 0, n, s, w, h0, h1, h2, h5 => by
    obtain ⟨n, rfl⟩ : ∃ n', n = n' + 1 := ⟨n - 1, by omega⟩
    have hN := hO.1
    refine ⟨w, ?_, fun c _ => rfl, fun k => by rw [if_neg (by omega)]⟩
    rw [x_keepPlan_3, h5, wr_id (by omega) (by omega), wr_id (by omega) (by omega), if_pos (by omega)]
  | m + 1, n, s, w, h0, h1, h2, h5 => by
    obtain ⟨n, rfl⟩ : ∃ n', n = n' + 1 := ⟨n - 1, by omega⟩
    have hN := hO.1
    have hn := nS_i hO
    have hb1 := hnum_bd hO hp
    have hb2 := wsum_bd hO hp
    have hv := pcost_eq S p
    obtain ⟨w', a1, a2, a3⟩ := p_keep_3 hO hp m n (s + 1) (wset w 15 s.toNat (keepV S p s)) (by omega) (by omega) (by omega) (by rw [wset_far 5 (by decide), h5])
    refine ⟨w', ?_, fun c hc => by rw [a2 c hc, wset_far c hc], fun k => ?_⟩
    · have hbit := bit_and (A := com S) (s := s.toNat) (com_lt hO) (by omega)
      rw [Int.toNat_of_nonneg h0, com_bth h0 (by omega)] at hbit
      have f1 : 0 ≤ s ∧ s < 7 := by omega
      rw [x_keepPlan_3, h5, wr_id (x := S 5 0) (by omega) (by omega), wr_id (x := s) (by omega) (by omega), if_neg (by omega)]
      simp only [hbit, f1, and_self, if_true]
      cases hb : bth S s
      · rw [if_pos rfl, if_pos (show wr 0 = 0 from rfl)]
        have : keepV S p s = -1 := by unfold keepV; rw [hb]; rfl
        rw [this] at a1
        exact a1
      · rw [if_neg (by decide), if_neg (show ¬ wr 1 = 0 by decide)]
        have e1 := p_lowChoice (x := pcost S (com S) p) (s := s) (b := 7) (by omega) (by omega) h0 (by omega) (by omega) w
        rw [show ((7 : Nat) : Int) = 7 from rfl, show (2 : Int) ^ 7 = 128 from rfl, plan_digit hO hp h0 (by omega) hb] at e1
        rw [e1]
        simp only [Option.bind_some]
        have : keepV S p s = p s := by unfold keepV; rw [hb]; rfl
        rw [this] at a1
        exact a1
    · rw [a3 k, wset_at]
      by_cases e : s ≤ (k : Int) ∧ (k : Int) < S 5 0
      · rw [if_pos e]
        by_cases e2 : s + 1 ≤ (k : Int) ∧ (k : Int) < S 5 0
        · rw [if_pos e2]
        · rw [if_neg e2, if_pos (by omega), show s = (k : Int) by omega]
      · rw [if_neg e, if_neg (by omega), if_neg (by omega)]
theorem p_plan {S : Wd} (hO : OK S) : (∃ w1, x_plan S = some (-1, w1) ∧ (∀ c, c ≠ 22 → c ≠ 25 → w1 c = S c) ∧ ∀ p, ¬ fplan S p) ∨ (∃ w1 p, x_plan S = some (wsum S p, w1) ∧ (∀ c, c ≠ 15 → c ≠ 22 → c ≠ 25 → w1 c = S c) ∧ (∀ k : Nat, w1 15 k = if (k : Int) < S 5 0 then keepV S p k else S 15 k) ∧ fplan S p ∧ ∀ p', fplan S p' → pcost S (com S) p ≤ pcost S (com S) p') := by
  have hN := hO.1
  have hn := nS_i hO
  have hn7 := nS_le hO
  obtain ⟨v, w', a1, a2, a3⟩ := p_leastPlan2 hO
  have e0 : fl_berthed S = some (((com S : Nat) : Int), S) := p_berthed hO
  rcases a3 with ⟨hv, hno⟩ | ⟨p, hp, hv, hmin⟩
  · refine Or.inl ⟨w', ?_, a2, hno⟩
    unfold x_plan
    rw [e0]
    simp only [Option.bind_some]
    rw [a1]
    simp only [Option.bind_some]
    rw [if_pos (by rw [bcmp_eq0, hv])]
  · have hb1 := hnum_bd hO hp
    have hb2 := wsum_bd hO hp
    have hpe := pcost_eq S p
    obtain ⟨w2, b1, b2, b3⟩ := p_keep_3 hO hp (nS S) FU 0 w' (by omega) (by omega) (by have := FU_big; omega) (a2 5 (by decide) (by decide))
    refine Or.inr ⟨w2, p, ?_, fun c c1 c2 c3 => by rw [b2 c c1, a2 c c2 c3], fun k => ?_, hp, fun p' hp' => by rw [← hv]; exact hmin p' hp'⟩
    · unfold x_plan x_keepPlan
      rw [e0]
      simp only [Option.bind_some]
      rw [a1]
      simp only [Option.bind_some]
      rw [hv, if_neg (by rw [bcmp_eq0, wl_id (by omega) (by omega), wl_id (by omega) (by omega)]; omega), b1]
      simp only [Option.bind_some]
      rw [lshr_i (by omega) (by omega) (by omega) (by omega)]
      congr 2
      show pcost S (com S) p / 562949953421312 = wsum S p
      omega
    · rw [b3 k, a2 15 (by decide) (by decide)]
      by_cases e : (k : Int) < S 5 0
      · rw [if_pos e, if_pos (by omega)]
      · rw [if_neg e, if_neg (by omega)]
